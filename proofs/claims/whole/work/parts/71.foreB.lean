/-! THE CLASS: forecasts that keep the most -/
theorem cO5.c {PI PL : Nat → Prop} {μ μ' : jM} (h : cO5 PI PL μ μ') : cOff PI PL μ (μ'.1, μ'.2.1, μ.2.2) := ⟨rfl, h.2.1, h.2.2.1⟩
theorem peI_lo {G : jG} {PI PL : Nat → Prop} {μ μ' : jM} (h : cO5 PI PL μ μ') {t : Nat} {T : sT} {Lw : Nat → sLaw} (hi : ∀ c, PI c → c < 12 ∨ (52 ≤ c ∧ c < 70)) (hl : ∀ c, PL c → c < 12 ∨ (52 ≤ c ∧ c < 70)) (hp : peI G μ t T Lw) : peI G μ' t T Lw := by
  obtain ⟨ht, q0, hx, hk, hb, hw⟩ := hp
  have ht2 := hx.1
  have h7 := hx.2.2.2.2.2.1.2.2.1
  have hc : ∀ c, 12 ≤ c → c < 52 → μ'.1 c = μ.1 c := fun c h1 h2 => h.2.1 c (fun z => by have := hi c z; omega)
  have hcl : ∀ c, 12 ≤ c → c < 52 → μ'.2.1 c = μ.2.1 c := fun c h1 h2 => h.2.2.1 c (fun z => by have := hl c z; omega)
  refine ⟨h.tO (by omega) ht, by rw [h.1 12 0 (by decide)]; exact q0, ?_, ?_, ?_, fun a ha => ?_⟩
  · exact txC_off h.c hx (fun c h1 h2 h3 => by have := hi c h3; omega) (fun c h1 h2 h3 => by have := hl c h3; omega)
  · exact kcI_low h.c ht2 (fun c hc => by have := hi c hc; omega) (fun c hc => by have := hl c hc; omega) hk
  · unfold brP at hb ⊢; rw [hc 14 (by omega) (by omega), hcl 12 (by omega) (by omega)]; exact hb
  · exact wyK_mem (hc _ (by omega) (by omega)) (hc _ (by omega) (by omega)) (by rw [hc _ (by omega) (by omega)]) (by rw [hc _ (by omega) (by omega)]) (by rw [hc _ (by omega) (by omega)]) (by rw [hc _ (by omega) (by omega)]) (hw a ha)
/-- what forecasts stand on -/
def fcI (G : jG) (μ : jM) (t : Nat) (T : sT) (Lw : Nat → sLaw) (S : sR) (B : Nat) : Prop := peI G μ t T Lw ∧ μ.1 53 = cRow S (S 65) (nI (T 0 7)) (thN T) ∧ (rgS S B ∧ B + 200 ≤ BB ∧ ∃ r, r ≤ 9 ∧ S 65 = nI r) ∧ ∀ i, 71 ≤ i → μ.1 59 i = 0
/-- the cells that forecasts write -/
def foI (t c : Nat) : Prop := c = 57 ∨ c = 60 ∨ c = 61 ∨ c = 62 ∨ pnI t 59 0 c
theorem pn_fo {t n c : Nat} (h : pnI t 59 n c) : foI t c := Or.inr (Or.inr (Or.inr (Or.inr h)))
theorem cRow_hi {S : sR} {od lots th : Int32} {i : Nat} (h : 71 ≤ i) : cRow S od lots th i = 0 := by
  unfold cRow
  rw [if_neg (by omega), if_neg (by omega), if_neg (by omega), if_neg (by omega), if_neg (by omega), if_neg (by omega), if_neg (by omega), if_neg (by omega)]
theorem cRow_od {S : sR} {od od' lots th : Int32} : upd (cRow S od lots th) 2 od' = cRow S od' lots th := by
  funext j
  by_cases h : j = 2
  · subst h; rw [upd_at]; rfl
  · rw [upd_ne h]; unfold cRow; simp only [h, if_false]
theorem cRow_lots {S : sR} {od lots lots' th : Int32} : upd (cRow S od lots th) 5 lots' = cRow S od lots' th := by
  funext j
  by_cases h : j = 5
  · subst h; rw [upd_at]; rfl
  · rw [upd_ne h]; unfold cRow; simp only [h, if_false]
theorem cRow_th {S : sR} {od lots th th' : Int32} : upd (cRow S od lots th) 6 th' = cRow S od lots th' := by
  funext j
  by_cases h : j = 6
  · subst h; rw [upd_at]; rfl
  · rw [upd_ne h]; unfold cRow; simp only [h, if_false]
theorem dfs1 {F R : Nat → Int32} {c : Nat} : dfs F R c 1 = F c - R c := by
  show 0 + (F (c + 0) - R (c + 0)) = _
  rw [Int32.zero_add, Nat.add_zero]
/-- the text stays while forecasts are made -/
theorem fc_now {G : jG} {μ μ' : jM} {t B n : Nat} {T : sT} {Lw : Nat → sLaw} {S : sR} (hf : fcI G μ t T Lw S B) (hp : peI G μ' t T Lw) (ho : cO5 (pnI t 59 n) (lnL t) μ μ') (h59 : ∀ i, 71 ≤ i → μ'.1 59 i = 0) : fcI G μ' t T Lw S B := by
  obtain ⟨h1, h2, h3, h4⟩ := hf
  have ht2 := h1.2.2.1.1
  refine ⟨hp, ?_, h3, h59⟩
  rw [ho.2.1 53 (by unfold pnI scI; omega)]; exact h2
theorem fc_lo {G : jG} {PI : Nat → Prop} {μ μ' : jM} {t B : Nat} {T : sT} {Lw : Nat → sLaw} {S : sR} (hf : fcI G μ t T Lw S B) (ho : cO5 PI (fun _ => False) μ μ') (hi : ∀ c, PI c → 54 ≤ c ∧ c < 70 ∧ c ≠ 59) : fcI G μ' t T Lw S B := by
  obtain ⟨h1, h2, h3, h4⟩ := hf
  refine ⟨peI_lo ho (fun c hc => by have := hi c hc; omega) (fun c hc => hc.elim) h1, ?_, h3, fun i hh => ?_⟩
  · rw [ho.2.1 53 (fun z => by have := hi _ z; omega)]; exact h2
  · rw [ho.2.1 59 (fun z => by have := hi _ z; omega)]; exact h4 i hh
/-- the most, from the left -/
def kmF (f : Nat → Int32) (P : Nat → Bool) : Nat → Int32 × Int32
  | 0 => (-1, 0)
  | n + 1 => if P n = true ∧ (kmF f P n).1 < f n then (f n, nI n) else kmF f P n
theorem kmF_no {f : Nat → Int32} {P : Nat → Bool} {n : Nat} (h : ¬ (P n = true ∧ (kmF f P n).1 < f n)) : kmF f P (n + 1) = kmF f P n := if_neg h
theorem kmF_yes {f : Nat → Int32} {P : Nat → Bool} {n : Nat} (h : P n = true ∧ (kmF f P n).1 < f n) : kmF f P (n + 1) = (f n, nI n) := if_pos h
def allP : Nat → Bool := fun _ => true
def putP (g : Nat) : Nat → Bool := fun s => decide (sBits (nI s) 12 = nI g)
noncomputable def nnS (T : sT) (Lw : Nat → sLaw) (n : Nat) (S : sR) : sR := sNn T Lw (nI (T 0 7)) (-1) 127 n S
noncomputable def putF (T : sT) (Lw : Nat → sLaw) (S : sR) (n : Nat) : Nat → Int32 := fun s => nnS T Lw n (upd S 64 (nI s)) 66 - S 66
noncomputable def bstF (T : sT) (Lw : Nat → sLaw) (S : sR) (n : Nat) : Nat → Int32 := fun r => nnS T Lw n (upd S 65 (nI r)) 66 - S 66
noncomputable def busF (T : sT) (Lw : Nat → sLaw) (S : sR) (n : Nat) : Nat → Int32 := fun k => nnS T Lw n S k - S k
theorem pow_sh : ∀ n, n ≤ 12 → (1 : Int32) <<< (nI n &&& 31) = nI (2 ^ n) := by decide +kernel
theorem pow_le : ∀ n, n ≤ 12 → 2 ^ n ≤ 4096 := by decide
theorem rgS_64 {S : sR} {B : Nat} {x : Int32} (h : rgS S B) : rgS (upd S 64 x) B := ⟨by rw [upd_ne (by decide)]; exact h.1, fun k hk => by rw [upd_ne (by omega)]; exact h.2 k hk⟩
theorem rgS_65 {S : sR} {B : Nat} {x : Int32} (h : rgS S B) : rgS (upd S 65 x) B := ⟨by rw [upd_ne (by decide)]; exact h.1, fun k hk => by rw [upd_ne (by omega)]; exact h.2 k hk⟩
section ForeB
variable {l : Launch} {G : jG}
/-- what begins a forecast -/
theorem fc_start (hG : gGG G) {μ : jM} (hP : gPP μ) {t B : Nat} {T : sT} {Lw : Nat → sLaw} {S : sR} (hf : fcI G μ t T Lw S B) : jC0 l mX1_startAnew 2 G [.ref 57] μ (pV fun μ' => gPP μ' ∧ fcI G μ' t T Lw S B ∧ cO5 (fun c => c = 59) (fun _ => False) μ μ' ∧ μ'.1 59 = cRow S (S 65) (nI (T 0 7)) (thN T)) := by
  refine (c_X1_startAnew hG hP (fun i hi => ?_)).mono (pV_mono ?_)
  · rw [hf.2.2.2 i hi, hf.2.1, cRow_hi hi]
  · rintro μ' rfl
    have ho : cOff (fun c => c = 59) (fun _ => False) μ (sI μ 59 (μ.1 53)) := cOff_sI rfl
    refine ⟨hP, ⟨peI_lo ho.o5 (fun c hc => by omega) (fun c hc => hc.elim) hf.1, ?_, hf.2.2.1, fun i hi => ?_⟩, ho.o5, ?_⟩
    · rw [sI_ne (by decide)]; exact hf.2.1
    · rw [sI_eq, hf.2.1, cRow_hi hi]
    · rw [sI_eq]; exact hf.2.1
theorem fc_59 {μ : jM} {t B i : Nat} {x : Int32} {T : sT} {Lw : Nat → sLaw} {S : sR} (hf : fcI G μ t T Lw S B) (hi : i < 71) : fcI G (wI μ 59 i x) t T Lw S B := by
  have ho : cOff (fun c => c = 59) (fun _ => False) μ (wI μ 59 i x) := cOff_wI rfl
  refine ⟨peI_lo ho.o5 (fun c hc => by omega) (fun c hc => hc.elim) hf.1, by rw [wI_ne (by decide)]; exact hf.2.1, hf.2.2.1, fun j hj => ?_⟩
  rw [wI_off' (by omega)]; exact hf.2.2.2 j hj
theorem fc_run (hG : gGG G) {μ : jM} (hP : gPP μ) {t B n : Nat} {T : sT} {Lw : Nat → sLaw} {S S' : sR} {od lots th : Int32} (hf : fcI G μ t T Lw S B) (hr : μ.1 59 = cRow S' od lots th) (hg : rgS S' B) (hrt : rtS S' od) (hn : n ≤ 200) : jC0 l mX1_run 5 G [.ref 57, .int (nI n)] μ (pV fun μ' => gPP μ' ∧ fcI G μ' t T Lw S B ∧ cO5 (pnI t 59 0) (lnL t) μ μ' ∧ μ'.1 59 = cRow (sNn T Lw lots od th n S') od lots th) := by
  refine (c_X1_run hG hP hf.1 hr hg (by have := hf.2.2.1.2.1; omega) hrt).mono (pV_mono ?_)
  rintro μ' ⟨hS, ho⟩
  have ho' : cO5 (pnI t 59 0) (lnL t) μ μ' := ho.mono (fun c hc => hc) (fun c hc => hc)
  refine ⟨ho.gPP hP, fc_now hf (enS_pe hS) ho (fun i hi => ?_), ho', hS.1.2.1⟩
  rw [hS.1.2.1, cRow_hi hi]
theorem fc_till (hG : gGG G) {μ : jM} (hP : gPP μ) {t B : Nat} {T : sT} {Lw : Nat → sLaw} {S E : sR} {od lots th : Int32} (hf : fcI G μ t T Lw S B) (hr : μ.1 59 = cRow E od lots th) : jC0 l mX1_grown 0 G [.ref 57, .int 3, .int 1] μ (pI fun z μ' => μ' = μ ∧ z = E 66 - S 66) := by
  refine (c_X1_grown hG hP (c := 3) (m := 1) (by decide) rfl rfl).mono (pI_mono ?_)
  rintro z μ' ⟨rfl, rfl⟩
  refine ⟨rfl, ?_⟩
  rw [dfs1, hr, hf.2.1]; rfl
/-- a search's stand: what was found among the first i -/
def srI (G : jG) (μ : jM) (t : Nat) (T : sT) (Lw : Nat → sLaw) (S : sR) (B : Nat) (q : Int32) (v : Int32 × Int32) (μ1 : jM) : Prop := gPP μ1 ∧ fcI G μ1 t T Lw S B ∧ cO5 (foI t) (lnL t) μ μ1 ∧ μ1.1 57 2 = q ∧ μ1.1 57 0 = v.1 ∧ μ1.1 57 1 = v.2
theorem fo_57 {t : Nat} {μ μ' : jM} (ht : t = 70 ∨ t = 91) (ho : cO5 (pnI t 59 0) (lnL t) μ μ') : μ'.1 57 = μ.1 57 := ho.2.1 57 (by unfold pnI scI; omega)
theorem sr_keep (hG : gGG G) {μ μ1 : jM} {t B i : Nat} {T : sT} {Lw : Nat → sLaw} {S : sR} {q x : Int32} {f : Nat → Int32} {P : Nat → Bool} (hs : srI G μ t T Lw S B q (kmF f P i) μ1) (hPi : P i = true) (hx : x = f i) : jC0 l mX1_keepMost 0 G [.ref 57, .int x, .int (nI i)] μ1 (pV (srI G μ t T Lw S B q (kmF f P (i + 1)))) := by
  obtain ⟨hP1, hf1, ho1, h2, h0, h1⟩ := hs
  refine (c_X1_keepMost hG hP1 x (nI i)).mono (pV_mono ?_)
  rintro μ' (⟨h, rfl⟩ | ⟨h, rfl⟩)
  · rw [kmF_no (fun z => by rw [hx, h0, i32_le] at h; have := z.2; rw [i32_lt] at this; omega)]
    exact ⟨hP1, hf1, ho1, h2, h0, h1⟩
  · rw [kmF_yes ⟨hPi, by rw [hx, h0, i32_le] at h; rw [i32_lt]; omega⟩]
    have ho : cOff (fun c => c = 57) (fun _ => False) μ1 (wI (wI μ1 57 0 x) 57 1 (nI i)) := cOff.trans (μ1 := wI μ1 57 0 x) (cOff_wI (PI := fun c => c = 57) rfl) (cOff_wI (PI := fun c => c = 57) rfl)
    refine ⟨hP1, fc_lo hf1 ho.o5 (fun c hc => by omega), ho1.trans (ho.o5.mono (fun c hc => Or.inl hc) (fun c hc => hc.elim)), ?_, ?_, ?_⟩
    · rw [wI_off' (by decide), wI_off' (by decide)]; exact h2
    · rw [wI_off' (by decide), wI_at]; exact hx
    · rw [wI_at]
theorem sr_begin (hG : gGG G) {μ : jM} (hP : gPP μ) {t B : Nat} {T : sT} {Lw : Nat → sLaw} {S : sR} (hf : fcI G μ t T Lw S B) (q : Int32) : jC0 l mX1_isAnswered 0 G [.ref 57, .int q] μ (pI fun z μ' => (z = 1 ∧ q = μ.1 57 2 ∧ μ' = μ) ∨ (z = 0 ∧ srI G μ t T Lw S B q (-1, 0) μ')) := by
  refine (c_X1_isAnswered hG hP q).mono (pI_mono ?_)
  rintro z μ' (h | ⟨rfl, rfl⟩)
  · exact Or.inl h
  · have ho : cOff (fun c => c = 57) (fun _ => False) μ (wI (wI (wI μ 57 2 q) 57 0 (-1)) 57 1 0) := cOff.trans (μ1 := wI (wI μ 57 2 q) 57 0 (-1)) (cOff.trans (μ1 := wI μ 57 2 q) (cOff_wI (PI := fun c => c = 57) rfl) (cOff_wI (PI := fun c => c = 57) rfl)) (cOff_wI (PI := fun c => c = 57) rfl)
    refine Or.inr ⟨rfl, hP, fc_lo hf ho.o5 (fun c hc => by omega), ho.o5.mono (fun c hc => Or.inl hc) (fun c hc => hc.elim), ?_, ?_, ?_⟩
    · rw [wI_off' (by decide), wI_off' (by decide), wI_at]
    · rw [wI_off' (by decide), wI_at]
    · rw [wI_at]
theorem c_X1_seekGates (hG : gGG G) {μ : jM} (hP : gPP μ) {t B g n : Nat} {T : sT} {Lw : Nat → sLaw} {S : sR} (hf : fcI G μ t T Lw S B) (hg : g ≤ 3) (hn : n ≤ 9) (han : μ.1 57 2 = nI (100 + 10 * g + n) → (μ.1 57 0, μ.1 57 1) = kmF (putF T Lw S n) (putP g) (2 ^ T 0 1)) :
    jC0 l mX1_seekGates 6 G [.ref 57, .int (nI g), .int (nI n)] μ (pV (srI G μ t T Lw S B (nI (100 + 10 * g + n)) (kmF (putF T Lw S n) (putP g) (2 ^ T 0 1)))) := by
  refine jC0.of' (ls := [.ref 57, .int (nI g), .int (nI n), .null, .null]) rfl rfl rfl (fun _ _ => Nat.le_of_ble_eq_true rfl) ?_
  have hx := hf.1.2.2.1
  have hv := hx.2.2.2.2.2
  have h12 := hv.1.2.1
  have ht2 := hx.1
  obtain ⟨r, hr9, hr⟩ := hf.2.2.1.2.2
  have eq : ((100 : Int32) + (10 * nI g)) + nI n = nI (100 + 10 * g + n) := by rw [show (10 : Int32) = nI 10 from rfl, pk_mul, show (100 : Int32) = nI 100 from rfl, nI_add, nI_add]
  refine b_X1_seekGates_0 hG hP (sr_begin hG hP hf _) ?_
  rw [eq]
  rintro z μ1 (⟨rfl, hq, rfl⟩ | ⟨rfl, hs1⟩)
  · refine b_X1_seekGates_13 hG hP hf.1.1 hf.1.2.1 (fun h => absurd h (by decide)) (fun _ => ?_)
    have := han hq.symm
    exact ⟨hP, hf, cO5.refl, hq.symm, by rw [← this], by rw [← this]⟩
  · refine b_X1_seekGates_13 hG hs1.1 hs1.2.1.1.1 hs1.2.1.1.2.1 (fun _ => ?_) (fun h => absurd rfl h)
    rw [hs1.2.1.1.2.2.1.2.1.2.1, pow_sh _ h12]
    have hpw := pow_le _ h12
    have loop : ∀ i, i ≤ 2 ^ T 0 1 → ∀ μ1, srI G μ t T Lw S B (nI (100 + 10 * g + n)) (kmF (putF T Lw S n) (putP g) i) μ1 → J l mX1_seekGates (jZ0 6 G (pV (srI G μ t T Lw S B (nI (100 + 10 * g + n)) (kmF (putF T Lw S n) (putP g) (2 ^ T 0 1))))) G 0 0 33 [.ref 57, .int (nI g), .int (nI n), .int (nI (2 ^ T 0 1)), .int (nI i)] [] μ1 := by
      refine up_loop (2 ^ T 0 1) ?_ (fun i hi ih => ?_)
      · intro μ1 h1
        have hle : nI (2 ^ T 0 1) ≤ nI (2 ^ T 0 1) := nI_le (Nat.le_refl _) (by omega)
        exact b_X1_seekGates_33 (ψ1 := fun _ _ => True) hG h1.1 (fun _ => h1) (fun h => absurd hle h) (fun h => absurd hle h)
      · intro μ1 h1
        refine b_X1_seekGates_33 hG h1.1 (fun h => absurd h (nI_ge hi (by omega))) (fun _ => c_JI_bitCount hG h1.1 i (by omega)) (fun _ => ?_)
        rintro z μ2 ⟨rfl, rfl⟩
        refine b_X1_seekGates_44 hG h1.1 (fun h => ?_) (fun _ => fc_start hG h1.1 h1.2.1) (fun h => ?_)
        · rw [nI_inc]
          refine ih _ ?_
          rw [kmF_no (fun z => h (of_decide_eq_true z.1))]
          exact h1
        · rintro μ3 ⟨hP3, hf3, ho3, hr3⟩
          have hPi : putP g i = true := decide_eq_true h
          have hr4 : (wI μ3 59 4 (nI i)).1 59 = cRow (upd S 64 (nI i)) (S 65) (nI (T 0 7)) (thN T) := by
            rw [wI_eq, hr3, cRow_upd (by decide)]; rfl
          have u65 : upd S 64 (nI i) 65 = S 65 := upd_ne (by decide)
          refine b_X1_seekGates_52 hG hP3 (fc_run (μ := wI μ3 59 4 (nI i)) hG hP3 (fc_59 hf3 (by decide)) hr4 (rgS_64 hf.2.2.1.1) ⟨⟨r, hr9, by rw [u65]; exact hr⟩, r, hr9, hr⟩ (by omega)) ?_
          rintro μ5 ⟨hP5, hf5, ho5, hr5⟩
          refine b_X1_seekGates_68 hG hP5 (fc_till hG hP5 hf5 hr5) ?_
          rintro z μ6 ⟨rfl, rfl⟩
          have e57 : μ6.1 57 = μ2.1 57 := by rw [fo_57 ht2 ho5, wI_ne (by decide), ho3.2.1 57 (by decide)]
          have hs6 : srI G μ t T Lw S B (nI (100 + 10 * g + n)) (kmF (putF T Lw S n) (putP g) i) μ6 := by
            obtain ⟨-, -, o1, k2, k0, k1⟩ := h1
            refine ⟨hP5, hf5, ?_, by rw [e57]; exact k2, by rw [e57]; exact k0, by rw [e57]; exact k1⟩
            have ho34 : cO5 (foI t) (lnL t) μ2 (wI μ3 59 4 (nI i)) := (ho3.mono (fun c hc => pn_fo (n := 0) (Or.inr (Or.inr (Or.inl hc)))) (fun c hc => hc.elim)).trans ((cOff_wI (PI := fun c => c = 59) (PL := fun _ => False) rfl).o5.mono (fun c hc => pn_fo (n := 0) (Or.inr (Or.inr (Or.inl hc)))) (fun c hc => hc.elim))
            exact (o1.trans ho34).trans (ho5.mono (fun c hc => pn_fo hc) (fun c hc => hc))
          refine b_X1_seekGates_75 hG hP5 (sr_keep hG hs6 hPi ?_) ?_
          · rw [← u65, nn_c hv hr9 (by rw [u65]; exact hr)]; rfl
          · intro μ7 h7
            refine b_X1_seekGates_80 hG h7.1 ?_
            rw [nI_inc]
            exact ih μ7 h7
    exact loop 0 (Nat.zero_le _) μ1 hs1
theorem c_X1_seekRate (hG : gGG G) {μ : jM} (hP : gPP μ) {t B n : Nat} {T : sT} {Lw : Nat → sLaw} {S : sR} (hf : fcI G μ t T Lw S B) (hn : n ≤ 30) (han : μ.1 57 2 = nI (200 + n) → (μ.1 57 0, μ.1 57 1) = kmF (bstF T Lw S n) allP 10) :
    jC0 l mX1_seekRate 6 G [.ref 57, .int (nI n)] μ (pV (srI G μ t T Lw S B (nI (200 + n)) (kmF (bstF T Lw S n) allP 10))) := by
  refine jC0.of' (ls := [.ref 57, .int (nI n), .null]) rfl rfl rfl (fun _ _ => Nat.le_of_ble_eq_true rfl) ?_
  have hx := hf.1.2.2.1
  have hv := hx.2.2.2.2.2
  have ht2 := hx.1
  have eq : (200 : Int32) + nI n = nI (200 + n) := nI_add 200 n
  refine b_X1_seekRate_0 hG hP (sr_begin hG hP hf _) ?_
  rw [eq]
  rintro z μ1 (⟨rfl, hq, rfl⟩ | ⟨rfl, hs1⟩)
  · refine b_X1_seekRate_9 hG hP (fun h => absurd h (by decide)) (fun _ => ?_)
    have := han hq.symm
    exact ⟨hP, hf, cO5.refl, hq.symm, by rw [← this], by rw [← this]⟩
  · refine b_X1_seekRate_9 hG hs1.1 (fun _ => ?_) (fun h => absurd rfl h)
    have loop : ∀ i, i ≤ 10 → ∀ μ1, srI G μ t T Lw S B (nI (200 + n)) (kmF (bstF T Lw S n) allP i) μ1 → J l mX1_seekRate (jZ0 6 G (pV (srI G μ t T Lw S B (nI (200 + n)) (kmF (bstF T Lw S n) allP 10)))) G 0 0 15 [.ref 57, .int (nI n), .int (nI i)] [] μ1 := by
      refine up_loop 10 ?_ (fun i hi ih => ?_)
      · intro μ1 h1
        exact b_X1_seekRate_15 (ψ1 := fun _ => True) hG h1.1 (fun _ => h1) (fun h => absurd (by decide) h) (fun h => absurd (by decide) h)
      · intro μ1 h1
        have hni : ¬ (9 : Int32) < nI i := nI_nlt (b := i) (a := 9) (by omega) (by decide)
        refine b_X1_seekRate_15 hG h1.1 (fun h => absurd h hni) (fun _ => fc_start hG h1.1 h1.2.1) (fun _ => ?_)
        rintro μ3 ⟨hP3, hf3, ho3, hr3⟩
        refine b_X1_seekRate_25 hG hP3 (c_X5_setRates hG hP3 (s := 58) (by decide) _ _) ?_
        rintro μ4 rfl
        have hf4 : fcI G (wI (wI μ3 59 1 (nI i)) 59 2 (nI i)) t T Lw S B := fc_59 (fc_59 hf3 (by decide)) (by decide)
        have hr4 : (wI (wI μ3 59 1 (nI i)) 59 2 (nI i)).1 59 = cRow (upd S 65 (nI i)) (nI i) (nI (T 0 7)) (thN T) := by
          rw [wI_eq, wI_eq, hr3, show upd (cRow S (S 65) (nI (T 0 7)) (thN T)) 1 (nI i) = cRow (upd S 65 (nI i)) (S 65) (nI (T 0 7)) (thN T) from (cRow_upd (i := 65) (by decide)).symm, cRow_od]
        have u65 : upd S 65 (nI i) 65 = nI i := upd_at
        refine b_X1_seekRate_34 (μ := wI (wI μ3 59 1 (nI i)) 59 2 (nI i)) hG hP3 (fc_run (μ := wI (wI μ3 59 1 (nI i)) 59 2 (nI i)) hG hP3 hf4 hr4 (rgS_65 hf.2.2.1.1) ⟨⟨i, by omega, u65⟩, i, by omega, rfl⟩ (by omega)) ?_
        rintro μ5 ⟨hP5, hf5, ho5, hr5⟩
        refine b_X1_seekRate_39 hG hP5 (fc_till hG hP5 hf5 hr5) ?_
        rintro z μ6 ⟨rfl, rfl⟩
        have e57 : μ6.1 57 = μ1.1 57 := by rw [fo_57 ht2 ho5, wI_ne (by decide), wI_ne (by decide), ho3.2.1 57 (by decide)]
        have hs6 : srI G μ t T Lw S B (nI (200 + n)) (kmF (bstF T Lw S n) allP i) μ6 := by
          obtain ⟨-, -, o1, k2, k0, k1⟩ := h1
          refine ⟨hP5, hf5, ?_, by rw [e57]; exact k2, by rw [e57]; exact k0, by rw [e57]; exact k1⟩
          have ow : cOff (fun c => c = 59) (fun _ => False) μ3 (wI (wI μ3 59 1 (nI i)) 59 2 (nI i)) := cOff.trans (μ1 := wI μ3 59 1 (nI i)) (cOff_wI (PI := fun c => c = 59) rfl) (cOff_wI (PI := fun c => c = 59) rfl)
          have ho34 : cO5 (foI t) (lnL t) μ1 (wI (wI μ3 59 1 (nI i)) 59 2 (nI i)) := (ho3.mono (fun c hc => pn_fo (n := 0) (Or.inr (Or.inr (Or.inl hc)))) (fun c hc => hc.elim)).trans (ow.o5.mono (fun c hc => pn_fo (n := 0) (Or.inr (Or.inr (Or.inl hc)))) (fun c hc => hc.elim))
          exact (o1.trans ho34).trans (ho5.mono (fun c hc => pn_fo hc) (fun c hc => hc))
        refine b_X1_seekRate_46 hG hP5 (sr_keep hG hs6 rfl ?_) ?_
        · have := nn_c hv (S := upd S 65 (nI i)) (lots := nI (T 0 7)) (r := i) (by omega) u65 n
          rw [u65] at this
          rw [this]; rfl
        · intro μ7 h7
          refine b_X1_seekRate_50 hG h7.1 ?_
          rw [nI_inc]
          exact ih μ7 h7
    exact loop 0 (by omega) μ1 hs1
theorem c_X1_seekBusiest (hG : gGG G) {μ : jM} (hP : gPP μ) {t B n : Nat} {T : sT} {Lw : Nat → sLaw} {S : sR} (hf : fcI G μ t T Lw S B) (hn : n ≤ 60) (han : μ.1 57 2 = nI (300 + n) → (μ.1 57 0, μ.1 57 1) = kmF (busF T Lw S n) allP (T 0 1)) :
    jC0 l mX1_seekBusiest 6 G [.ref 57, .int (nI n)] μ (pV (srI G μ t T Lw S B (nI (300 + n)) (kmF (busF T Lw S n) allP (T 0 1)))) := by
  refine jC0.of' (ls := [.ref 57, .int (nI n), .null]) rfl rfl rfl (fun _ _ => Nat.le_of_ble_eq_true rfl) ?_
  have hx := hf.1.2.2.1
  have hv := hx.2.2.2.2.2
  have h12 := hv.1.2.1
  have ht2 := hx.1
  obtain ⟨r, hr9, hr⟩ := hf.2.2.1.2.2
  have eq : (300 : Int32) + nI n = nI (300 + n) := nI_add 300 n
  refine b_X1_seekBusiest_0 hG hP (sr_begin hG hP hf _) ?_
  rw [eq]
  rintro z μ1 (⟨rfl, hq, rfl⟩ | ⟨rfl, hs1⟩)
  · refine b_X1_seekBusiest_9 (ψ0 := fun _ => True) hG hP (fun h => absurd h (by decide)) (fun h => absurd h (by decide)) (fun _ => ?_)
    have := han hq.symm
    exact ⟨hP, hf, cO5.refl, hq.symm, by rw [← this], by rw [← this]⟩
  · refine b_X1_seekBusiest_9 hG hs1.1 (fun _ => fc_start hG hs1.1 hs1.2.1) (fun _ => ?_) (fun h => absurd rfl h)
    rintro μ3 ⟨hP3, hf3, ho3, hr3⟩
    refine b_X1_seekBusiest_17 hG hP3 (fc_run hG hP3 hf3 hr3 hf.2.2.1.1 ⟨⟨r, hr9, hr⟩, r, hr9, hr⟩ (by omega)) ?_
    rintro μ5 ⟨hP5, hf5, ho5, hr5⟩
    rw [nn_c hv hr9 hr] at hr5
    refine b_X1_seekBusiest_22 hG hP5 ?_
    have loop : ∀ i, i ≤ T 0 1 → ∀ μ1, srI G μ t T Lw S B (nI (300 + n)) (kmF (busF T Lw S n) allP i) μ1 → μ1.1 59 = cRow (nnS T Lw n S) (S 65) (nI (T 0 7)) (thN T) → J l mX1_seekBusiest (jZ0 6 G (pV (srI G μ t T Lw S B (nI (300 + n)) (kmF (busF T Lw S n) allP (T 0 1))))) G 0 0 24 [.ref 57, .null, .int (nI i)] [] μ1 := by
      refine up_loop (T 0 1) ?_ (fun i hi ih => ?_)
      · intro μ1 h1 hr1
        have hle : μ1.1 t 1 ≤ nI (T 0 1) := by rw [h1.2.1.1.2.2.1.2.1.2.1]; exact nI_le (Nat.le_refl _) (by omega)
        exact b_X1_seekBusiest_24 (ψ1 := fun _ _ => True) hG h1.1 h1.2.1.1.1 h1.2.1.1.2.1 (fun _ => h1) (fun h => absurd hle h) (fun h => absurd hle h)
      · intro μ1 h1 hr1
        have hgt : ¬ μ1.1 t 1 ≤ nI i := by rw [h1.2.1.1.2.2.1.2.1.2.1]; exact nI_ge hi (by omega)
        refine b_X1_seekBusiest_24 hG h1.1 h1.2.1.1.1 h1.2.1.1.2.1 (fun h => absurd h hgt) (fun _ => c_X1_grown hG h1.1 (c := 7 + i) (m := 1) (by omega) (nI_add 7 i) rfl) (fun _ => ?_)
        rintro z μ2 ⟨rfl, rfl⟩
        have e : dfs (μ2.1 59) (μ2.1 53) (7 + i) 1 = busF T Lw S n i := by
          rw [dfs1, hr1, h1.2.1.2.1, cRow_w (by omega), cRow_w (by omega)]; rfl
        have hk := sr_keep (l := l) (x := dfs (μ2.1 59) (μ2.1 53) (7 + i) 1) hG h1 rfl e
        have hk2 : jC0 l mX1_keepMost 0 G [.ref 57, .int (dfs (μ2.1 59) (μ2.1 53) (7 + i) 1), .int (nI i)] μ2 (pV fun μ7 => srI G μ t T Lw S B (nI (300 + n)) (kmF (busF T Lw S n) allP (i + 1)) μ7 ∧ μ7.1 59 = μ2.1 59) := by
          obtain ⟨hP1, hf1, ho1, h2, h0, h1'⟩ := h1
          refine (c_X1_keepMost hG hP1 _ (nI i)).mono (pV_mono ?_)
          rintro μ' (⟨h, rfl⟩ | ⟨h, rfl⟩)
          · rw [kmF_no (fun z => by rw [e, h0, i32_le] at h; have := z.2; rw [i32_lt] at this; omega)]
            exact ⟨⟨hP1, hf1, ho1, h2, h0, h1'⟩, rfl⟩
          · rw [kmF_yes ⟨rfl, by rw [e, h0, i32_le] at h; rw [i32_lt]; omega⟩]
            have ho : cOff (fun c => c = 57) (fun _ => False) μ2 (wI (wI μ2 57 0 (dfs (μ2.1 59) (μ2.1 53) (7 + i) 1)) 57 1 (nI i)) := cOff.trans (μ1 := wI μ2 57 0 (dfs (μ2.1 59) (μ2.1 53) (7 + i) 1)) (cOff_wI (PI := fun c => c = 57) rfl) (cOff_wI (PI := fun c => c = 57) rfl)
            refine ⟨⟨hP1, fc_lo hf1 ho.o5 (fun c hc => by omega), ho1.trans (ho.o5.mono (fun c hc => Or.inl hc) (fun c hc => hc.elim)), ?_, ?_, ?_⟩, ho.2.1 59 (by decide)⟩
            · rw [wI_off' (by decide), wI_off' (by decide)]; exact h2
            · rw [wI_off' (by decide), wI_at]; exact e
            · rw [wI_at]
        refine b_X1_seekBusiest_48 hG h1.1 hk2 ?_
        rintro μ7 ⟨h7, e7⟩
        refine b_X1_seekBusiest_52 hG h7.1 ?_
        rw [nI_inc]
        exact ih μ7 h7 (by rw [e7]; exact hr1)
    refine loop 0 (Nat.zero_le _) μ5 ?_ hr5
    have e57 : μ5.1 57 = μ1.1 57 := by rw [fo_57 ht2 ho5, ho3.2.1 57 (by decide)]
    obtain ⟨-, -, o1, k2, k0, k1⟩ := hs1
    exact ⟨hP5, hf5, (o1.trans (ho3.mono (fun c hc => pn_fo (n := 0) (Or.inr (Or.inr (Or.inl hc)))) (fun c hc => hc.elim))).trans (ho5.mono (fun c hc => pn_fo hc) (fun c hc => hc)), by rw [e57]; exact k2, by rw [e57]; exact k0, by rw [e57]; exact k1⟩
end ForeB
