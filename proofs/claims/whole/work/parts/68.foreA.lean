/-! THE CLASS: State, and what a forecast is made of -/
/-- all else as it was, but for the row that World has entered -/
def cO5 (PI PL : Nat → Prop) (μ μ' : jM) : Prop := (∀ c f, ¬ (c = 12 ∧ f = 5) → μ'.2.2 c f = μ.2.2 c f) ∧ (∀ c, ¬ PI c → μ'.1 c = μ.1 c) ∧ (∀ c, ¬ PL c → μ'.2.1 c = μ.2.1 c) ∧ (μ'.2.2 12 5 = μ.2.2 12 5 ∨ ∃ r, r < 112 ∧ μ'.2.2 12 5 = some r)
theorem cO5.refl {PI PL : Nat → Prop} {μ : jM} : cO5 PI PL μ μ := ⟨fun _ _ _ => rfl, fun _ _ => rfl, fun _ _ => rfl, Or.inl rfl⟩
theorem cO5.trans {PI PL : Nat → Prop} {μ μ1 μ2 : jM} (h1 : cO5 PI PL μ μ1) (h2 : cO5 PI PL μ1 μ2) : cO5 PI PL μ μ2 := ⟨fun c f h => (h2.1 c f h).trans (h1.1 c f h), fun c h => (h2.2.1 c h).trans (h1.2.1 c h), fun c h => (h2.2.2.1 c h).trans (h1.2.2.1 c h), by
  rcases h2.2.2.2 with h | h
  · rcases h1.2.2.2 with g | ⟨r, hr, g⟩
    · exact Or.inl (h.trans g)
    · exact Or.inr ⟨r, hr, h.trans g⟩
  · exact Or.inr h⟩
theorem cO5.mono {PI PL PI' PL' : Nat → Prop} {μ μ' : jM} (h : cO5 PI PL μ μ') (hi : ∀ c, PI c → PI' c) (hl : ∀ c, PL c → PL' c) : cO5 PI' PL' μ μ' := ⟨h.1, fun c hc => h.2.1 c (fun z => hc (hi c z)), fun c hc => h.2.2.1 c (fun z => hc (hl c z)), h.2.2.2⟩
theorem cOff.o5 {PI PL : Nat → Prop} {μ μ' : jM} (h : cOff PI PL μ μ') : cO5 PI PL μ μ' := ⟨fun c f _ => by rw [h.1], h.2.1, h.2.2, Or.inl (by rw [h.1])⟩
theorem cOff.o5w {PI PL : Nat → Prop} {μ μ' : jM} {r : Nat} (h : cOff PI PL (wP μ 12 5 (some r)) μ') (hr : r < 112 := by decide) : cO5 PI PL μ μ' := by
  refine ⟨fun c f hc => ?_, h.2.1, h.2.2, Or.inr ⟨r, hr, by rw [h.1, wP_at]⟩⟩
  rw [h.1]
  by_cases e : c = 12
  · subst e
    rw [wP_o (fun z => hc ⟨rfl, z⟩)]
  · rw [wP_n e]
theorem cO5.gPP {PI PL : Nat → Prop} {μ μ' : jM} (h : cO5 PI PL μ μ') (hP : gPP μ) : gPP μ' := by
  intro a f x hx
  rw [h.1 a f (fun z => by rw [z.1, z.2] at hx; cases hx)]
  exact hP a f x hx
theorem cO5.tO {PI PL : Nat → Prop} {μ μ' : jM} (h : cO5 PI PL μ μ') {gl : jG} {pl : Nat → Nat → Option Nat} {G : jG} {t : Nat} (h12 : 12 < t) (ht : tO gl pl G μ t) : tO gl pl G μ' t :=
  ⟨ht.1, fun a f x hx => by rw [h.1 (t + a) f (by omega)]; exact ht.2 a f x hx⟩
theorem tO_state {G : jG} {μ : jM} (hG : gGG G) (hP : gPP μ) {s : Nat} (hs : s = 52 ∨ s = 58 ∨ s = 64) : tO gState pState G μ s := by
  refine ⟨fun x sh hx => ?_, fun c f x hx => ?_⟩
  · have hx2 : x < 2 := (List.getElem?_eq_some_iff.mp hx).1
    have hx' : x = 0 ∨ x = 1 := by omega
    rcases hs with rfl | rfl | rfl <;> rcases hx' with rfl | rfl <;> (cases hx; exact hG _ _ rfl)
  · unfold pState at hx
    split at hx
    · split at hx <;> first | (cases hx; rcases hs with rfl | rfl | rfl <;> exact hP _ _ _ rfl) | cases hx
    · cases hx
/-- differences, summed from the left -/
def dfs (F R : Nat → Int32) (c : Nat) : Nat → Int32
  | 0 => 0
  | m + 1 => dfs F R c m + (F (c + m) - R (c + m))
def thN (T : sT) : Int32 := (1 <<< (nI (T 0 2) &&& 31)) - 1
section ForeA
variable {l : Launch} {G : jG}
theorem c_X5_copy (hG : gGG G) {μ : jM} (hP : gPP μ) {s s2 : Nat} (hs : s = 52 ∨ s = 58 ∨ s = 64) (hs2 : s2 = 52 ∨ s2 = 58 ∨ s2 = 64) (h1 : ∀ i, 71 ≤ i → μ.1 (s + 1) i = μ.1 (s2 + 1) i) : jC0 l mX5_copy 1 G [.ref s, .ref s2] μ (pV fun μ' => μ' = sI μ (s + 1) (μ.1 (s2 + 1))) := by
  refine jC0.of' (ls := [.ref s, .ref s2]) rfl rfl rfl (fun _ _ => Nat.le_of_ble_eq_true rfl) ?_
  refine b_X5_copy_0 hG hP (tO_state hG hP hs) (tO_state hG hP hs2) ?_
  show _ = _
  congr 1
  funext i
  have e0 : (0 : Int32).toNatClampNeg = 0 := rfl
  have e71 : (71 : Int32).toNatClampNeg = 71 := rfl
  rw [e0, e71]
  by_cases h : i < 71
  · rw [pk_cpy_in (by omega) (by omega), show 0 + (i - 0) = i by omega]
  · rw [pk_cpy_out (by omega)]; exact h1 i (by omega)
theorem c_X5_setRates (hG : gGG G) {μ : jM} (hP : gPP μ) {s : Nat} (hs : s = 52 ∨ s = 58 ∨ s = 64) (x y : Int32) : jC0 l mX5_setRates 0 G [.ref s, .int x, .int y] μ (pV fun μ' => μ' = wI (wI μ (s + 1) 1 x) (s + 1) 2 y) := by
  refine jC0.of' (ls := [.ref s, .int x, .int y]) rfl rfl rfl (fun _ _ => Nat.le_of_ble_eq_true rfl) ?_
  exact b_X5_setRates_0 hG hP (tO_state hG hP hs) rfl
/-- the row of a text's begin -/
def sBg (T : sT) : sR := upd (upd (fun _ => 0) 64 (nI (T 0 3))) 65 1
theorem c_X5_begin (hG : gGG G) {μ : jM} (hP : gPP μ) {s t : Nat} {T : sT} {Lw : Nat → sLaw} (hs : s = 52 ∨ s = 58 ∨ s = 64) (ht : tO gTold pTold G μ t) (hx : txC μ t T Lw) (h0 : ∀ i, 71 ≤ i → μ.1 (s + 1) i = 0) : jC0 l mX5_begin 1 G [.ref s, .ref t] μ (pV fun μ' => μ' = sI μ (s + 1) (cRow (sBg T) 1 (nI (T 0 7)) (thN T))) := by
  refine jC0.of' (ls := [.ref s, .ref t]) rfl rfl rfl (fun _ _ => Nat.le_of_ble_eq_true rfl) ?_
  have hs' := tO_state hG hP hs
  have ht2 := hx.1
  refine b_X5_begin_0 hG hP hs' ht (c_fill_II hG hP (hs'.1 1 _ rfl) (by decide) 0) ?_
  rintro μ1 ⟨F, rfl, hF, hF2⟩
  have hP1 : gPP (sI μ (s + 1) F) := hP
  refine b_X5_begin_8 (μ := sI μ (s + 1) F) hG hP1 hs' ht (c_X5_setRates (μ := sI μ (s + 1) F) hG hP1 hs 1 1) ?_
  rintro μ2 rfl
  refine b_X5_begin_14 (μ := wI (wI (sI μ (s + 1) F) (s + 1) 1 1) (s + 1) 2 1) hG hP hs' ht ?_
  have nt : t ≠ s + 1 := by omega
  have g7 : μ.1 t 7 = nI (T 0 3) := hx.2.1.2.2.2.1
  have g19 : μ.1 t 19 = nI (T 0 7) := hx.2.1.2.2.2.2.2.2.2
  have g2 : μ.1 t 2 = nI (T 0 2) := hx.2.1.2.2.1
  show _ = _
  simp only [wI_ne nt, sI_ne nt, wI_sI, g7, g19, g2]
  congr 1
  funext j
  have hzero : ∀ i, F i = 0 := fun i => by
    by_cases h : i < 71
    · exact hF i h
    · rw [hF2 i (by omega)]; exact h0 i (by omega)
  have hS : ∀ i, i ≠ 64 → i ≠ 65 → sBg T i = 0 := fun i h1 h2 => by unfold sBg; rw [upd_ne h2, upd_ne h1]
  unfold cRow thN
  by_cases h6 : j = 6
  · subst h6; rw [upd_at]; rfl
  · rw [upd_ne h6]
    by_cases h5 : j = 5
    · subst h5; rw [upd_at]; rfl
    · rw [upd_ne h5]
      by_cases h4 : j = 4
      · subst h4; rw [upd_at]; rfl
      · rw [upd_ne h4]
        by_cases h2 : j = 2
        · subst h2; rw [upd_at]; rfl
        · rw [upd_ne h2]
          by_cases h1 : j = 1
          · subst h1; rw [upd_at]; rfl
          · rw [upd_ne h1, hzero j, hS 67 (by decide) (by decide), hS 66 (by decide) (by decide), if_neg h1, if_neg h2, if_neg h4, if_neg h5, if_neg h6]
            by_cases h7 : j < 71
            · rw [if_pos h7, hS (j - 7) (by omega) (by omega)]; simp
            · rw [if_neg h7]; simp
theorem c_X1_startAnew (hG : gGG G) {μ : jM} (hP : gPP μ) (h1 : ∀ i, 71 ≤ i → μ.1 59 i = μ.1 53 i) : jC0 l mX1_startAnew 2 G [.ref 57] μ (pV fun μ' => μ' = sI μ 59 (μ.1 53)) := by
  refine jC0.of' (ls := [.ref 57]) rfl rfl rfl (fun _ _ => Nat.le_of_ble_eq_true rfl) ?_
  refine b_X1_startAnew_0 hG hP (c_X5_copy hG hP (s := 58) (s2 := 52) (by decide) (by decide) h1) ?_
  rintro μ1 rfl
  exact b_X1_startAnew_11 (μ := sI μ (58 + 1) (μ.1 (52 + 1))) hG hP rfl
theorem c_X1_run (hG : gGG G) {μ : jM} (hP : gPP μ) {t B n : Nat} {T : sT} {Lw : Nat → sLaw} {S : sR} {od lots th : Int32} (hp : peI G μ t T Lw) (hr : μ.1 59 = cRow S od lots th) (hg : rgS S B) (hBn : B + n ≤ BB) (hrt : rtS S od) :
    jC0 l mX1_run 5 G [.ref 57, .int (nI n)] μ (pV fun μ' => enS G μ' t 59 T Lw (sNn T Lw lots od th n S) od lots th (B + n) ∧ cO5 (pnI t 59 (T 0 2)) (lnL t) μ μ') := by
  refine jC0.of' (ls := [.ref 57, .int (nI n), .null]) rfl rfl rfl (fun _ _ => Nat.le_of_ble_eq_true rfl) ?_
  have hB18 : B + n ≤ 2 ^ 18 := hBn
  refine b_X1_run_0 hG hP (c_X10_enter hG hP (s := 58) hp (by decide) hr hg (by unfold BB; omega) hrt) ?_
  rintro μ1 ⟨hS1, ho1, -⟩
  have ho1' : cO5 (pnI t 59 (T 0 2)) (lnL t) μ μ1 := ho1.o5w.mono (fun c hc => by
    unfold pnI
    have h7 := hS1.1.1.2.2.2.2.2.1.2.2.2.2.2.1.2.2.1
    rcases hc with z | z | z | ⟨b, z1, z2⟩
    · exact Or.inl z
    · exact Or.inr (Or.inl z)
    · exact Or.inr (Or.inr (Or.inr (Or.inl z)))
    · exact Or.inr (Or.inr (Or.inr (Or.inr (by omega))))) (fun c hc => hc)
  have hP1 := ho1'.gPP hP
  refine b_X1_run_11 hG hP1 ?_
  have loop : ∀ i, i ≤ n → ∀ (μ1 : jM), enS G μ1 t 59 T Lw (sNn T Lw lots od th i S) od lots th (B + i) → cO5 (pnI t 59 (T 0 2)) (lnL t) μ μ1 → J l mX1_run (jZ0 5 G (pV fun μ' => enS G μ' t 59 T Lw (sNn T Lw lots od th n S) od lots th (B + n) ∧ cO5 (pnI t 59 (T 0 2)) (lnL t) μ μ')) G 0 0 13 [.ref 57, .int (nI n), .int (nI i)] [] μ1 := by
    refine up_loop n ?_ (fun i hi ih => ?_)
    · intro μ1 h1 h2
      have hle : nI n ≤ nI n := nI_le (Nat.le_refl _) (by omega)
      exact b_X1_run_13 (ψ1 := fun _ => True) hG (h2.gPP hP) (fun _ => ⟨h1, h2⟩) (fun h => absurd hle h) (fun h => absurd hle h)
    · intro μ1 h1 h2
      have hP1 := h2.gPP hP
      refine b_X1_run_13 hG hP1 (fun h => absurd h (nI_ge hi (by omega))) (fun _ => c_X10_passNight hG hP1 h1 (by unfold BB; omega)) (fun _ => ?_)
      rintro μ2 ⟨g1, g2, -, -⟩
      refine b_X1_run_25 hG (g2.gPP hP1) ?_
      rw [nI_inc]
      exact ih μ2 g1 (h2.trans g2.o5)
  exact loop 0 (by omega) μ1 hS1 ho1'
theorem c_X1_grown (hG : gGG G) {μ : jM} (hP : gPP μ) {c m : Nat} (hcm : c + m ≤ 71) {x y : Int32} (hx : x = nI c) (hy : y = nI m) : jC0 l mX1_grown 0 G [.ref 57, .int x, .int y] μ (pI fun z μ' => μ' = μ ∧ z = dfs (μ.1 59) (μ.1 53) c m) := by
  subst hx
  subst hy
  refine jC0.of' (ls := [.ref 57, .int (nI c), .int (nI m), .null, .null]) rfl rfl rfl (fun _ _ => Nat.le_of_ble_eq_true rfl) ?_
  refine b_X1_grown_0 hG hP ?_
  have loop : ∀ i, i ≤ m → J l mX1_grown (jZ0 0 G (pI fun z μ' => μ' = μ ∧ z = dfs (μ.1 59) (μ.1 53) c m)) G 0 0 5 [.ref 57, .int (nI c), .int (nI m), .int (dfs (μ.1 59) (μ.1 53) c i), .int (nI (c + i))] [] μ := by
    refine up_loop m ?_ (fun i hi ih => ?_)
    · have hle : nI c + nI m ≤ nI (c + m) := by rw [nI_add]; exact nI_le (Nat.le_refl _) (by omega)
      exact b_X1_grown_5 hG hP (fun _ => ⟨rfl, rfl⟩) (fun h => absurd hle h) (fun h => absurd hle h) (fun h => absurd hle h)
    · have hgt : ¬ nI c + nI m ≤ nI (c + i) := by rw [nI_add]; exact nI_ge (by omega) (by omega)
      have h71 : ¬ (71 : Int32) ≤ nI (c + i) := nI_ge (b := 71) (by omega) (by decide)
      refine b_X1_grown_5 hG hP (fun h => absurd h hgt) (fun _ h => absurd h h71) (fun _ _ => vp_in_nI (by omega) (by decide)) (fun _ _ => ?_)
      rw [nI_inc, nI_clamp (by omega)]
      exact ih
  exact loop 0 (by omega)
theorem c_X1_outdate (hG : gGG G) {μ : jM} (hP : gPP μ) : jC0 l mX1_outdate 0 G [.ref 57] μ (pV fun μ' => μ' = wI μ 57 2 (-1)) := by
  refine jC0.of' (ls := [.ref 57]) rfl rfl rfl (fun _ _ => Nat.le_of_ble_eq_true rfl) ?_
  exact b_X1_outdate_0 hG hP rfl
theorem c_X1_isAnswered (hG : gGG G) {μ : jM} (hP : gPP μ) (q : Int32) : jC0 l mX1_isAnswered 0 G [.ref 57, .int q] μ (pI fun z μ' => (z = 1 ∧ q = μ.1 57 2 ∧ μ' = μ) ∨ (z = 0 ∧ μ' = wI (wI (wI μ 57 2 q) 57 0 (-1)) 57 1 0)) := by
  refine jC0.of' (ls := [.ref 57, .int q]) rfl rfl rfl (fun _ _ => Nat.le_of_ble_eq_true rfl) ?_
  exact b_X1_isAnswered_0 hG hP (fun _ => Or.inr ⟨rfl, rfl⟩) (fun h => Or.inl ⟨rfl, h, rfl⟩)
theorem c_X1_keepMost (hG : gGG G) {μ : jM} (hP : gPP μ) (x y : Int32) : jC0 l mX1_keepMost 0 G [.ref 57, .int x, .int y] μ (pV fun μ' => (x ≤ μ.1 57 0 ∧ μ' = μ) ∨ (¬ x ≤ μ.1 57 0 ∧ μ' = wI (wI μ 57 0 x) 57 1 y)) := by
  refine jC0.of' (ls := [.ref 57, .int x, .int y]) rfl rfl rfl (fun _ _ => Nat.le_of_ble_eq_true rfl) ?_
  exact b_X1_keepMost_0 hG hP (fun h => Or.inl ⟨h, rfl⟩) (fun h => Or.inr ⟨h, rfl⟩)
end ForeA
