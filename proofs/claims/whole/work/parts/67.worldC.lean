/-! THE CLASS: World's other methods -/
/-- a sum over a WAY -/
def sumW (f : Nat → Int32) : List Nat → Int32 → Int32
  | [], s => s
  | k :: W, s => sumW f W (s + f k)
def sFree (T : sT) (Lw : Nat → sLaw) (lots od : Int32) (S : sR) (a : Nat) : Prop := sDs T Lw lots od S a (T 5 a) < INF ∧ ∀ k ∈ sWl T Lw lots od S a, ¬ sGt S k
noncomputable def sFr (T : sT) (Lw : Nat → sLaw) (lots od : Int32) (S : sR) : Nat → Int32
  | 0 => 0
  | n + 1 => @ite _ (sFree T Lw lots od S n) (Classical.propDecidable _) (sFr T Lw lots od S n ||| (1 <<< (nI n &&& 31))) (sFr T Lw lots od S n)
theorem way_free {W : List Nat} {S : sR} {b : Int32} (hb : b = bitsW W 0) (hW : ∀ k ∈ W, k < 32) : (b &&& S 64 = 0) ↔ ∀ k ∈ W, ¬ sGt S k := by
  rw [hb]
  constructor
  · intro h k hk hg
    have h1 := b_0x.mp h k (hW k hk)
    rw [b_and, b_bitsW _ _ _ hW (hW k hk), (sGt_bt (hW k hk)).mp hg] at h1
    simp [hk] at h1
  · intro h
    refine b_0x.mpr (fun i hi => ?_)
    rw [b_and, b_bitsW _ _ _ hW hi, b_0, Bool.false_or]
    by_cases hk : i ∈ W
    · have := h i hk
      rw [sGt_bt hi] at this
      cases hb : bt (S 64) i
      · simp
      · exact absurd hb this
    · simp [hk]
section WorldC
variable {l : Launch} {G : jG}
theorem c_X10_passNights (hG : gGG G) {μ : jM} (hP : gPP μ) {t r B n : Nat} {T : sT} {Lw : Nat → sLaw} {S : sR} {od lots th : Int32} (hS : enS G μ t r T Lw S od lots th B) (hBn : B + n ≤ BB) :
    jC0 l mX10_passNights 5 G [.ref 12, .int (nI n)] μ (pV fun μ' => enS G μ' t r T Lw (sNn T Lw lots od th n S) od lots th (B + n) ∧ cOff (pnI t r (T 0 2)) (lnL t) μ μ' ∧ ∀ f, f ≠ 1 → f ≠ 2 → f ≠ 4 → μ'.1 12 f = μ.1 12 f) := by
  refine jC0.of' (ls := [.ref 12, .int (nI n), .null]) rfl rfl rfl (fun _ _ => Nat.le_of_ble_eq_true rfl) ?_
  have hB18 : B + n ≤ 2 ^ 18 := hBn
  refine b_X10_passNights_0 hG hP ?_
  have loop : ∀ i, i ≤ n → ∀ (μ1 : jM), enS G μ1 t r T Lw (sNn T Lw lots od th i S) od lots th (B + i) → cOff (pnI t r (T 0 2)) (lnL t) μ μ1 → (∀ f, f ≠ 1 → f ≠ 2 → f ≠ 4 → μ1.1 12 f = μ.1 12 f) → J l mX10_passNights (jZ0 5 G (pV fun μ' => enS G μ' t r T Lw (sNn T Lw lots od th n S) od lots th (B + n) ∧ cOff (pnI t r (T 0 2)) (lnL t) μ μ' ∧ ∀ f, f ≠ 1 → f ≠ 2 → f ≠ 4 → μ'.1 12 f = μ.1 12 f)) G 0 0 2 [.ref 12, .int (nI n), .int (nI i)] [] μ1 := by
    refine up_loop n ?_ (fun i hi ih => ?_)
    · intro μ1 h1 h2 h3
      have hle : nI n ≤ nI n := nI_le (Nat.le_refl _) (by omega)
      exact b_X10_passNights_2 (ψ1 := fun _ => True) hG (h2.gPP hP) (fun _ => ⟨h1, h2, h3⟩) (fun h => absurd hle h) (fun h => absurd hle h)
    · intro μ1 h1 h2 h3
      have hP1 := h2.gPP hP
      refine b_X10_passNights_2 hG hP1 (fun h => absurd h (nI_ge hi (by omega))) (fun _ => c_X10_passNight hG hP1 h1 (by unfold BB; omega)) (fun _ => ?_)
      rintro μ2 ⟨g1, g2, g3, -⟩
      refine b_X10_passNights_11 hG (g2.gPP hP1) ?_
      rw [nI_inc]
      exact ih μ2 g1 (h2.trans g2) (fun f a b c => by rw [g3 f a b c]; exact h3 f a b c)
  exact loop 0 (by omega) μ hS cOff.refl (fun _ _ _ _ => rfl)
theorem c_X10_hoursOf (hG : gGG G) {μ : jM} (hP : gPP μ) {t y : Nat} {T : sT} {Lw : Nat → sLaw} {W : List Nat} (ht : tO gTold pTold G μ t) (hy : tO gWay pWay G μ y) (q0 : μ.2.2 12 0 = some t) (hx : txC μ t T Lw) (h5 : μ.1 y 5 = nI W.length) (h8 : W.length ≤ 8) (h3 : ∀ (j q : Nat), W[j]? = some q → μ.1 (y + 3) j = nI q) (hW : ∀ k ∈ W, k < T 0 1) :
    jC0 l mX10_hoursOf 0 G [.ref 12, .ref y] μ (pI fun x μ' => μ' = μ ∧ x = sumW (fun k => nI (T 3 k)) W 0) := by
  refine jC0.of' (ls := [.ref 12, .ref y, .null, .null]) rfl rfl rfl (fun _ _ => Nat.le_of_ble_eq_true rfl) ?_
  have h12 := hx.2.2.2.2.2.1.2.1
  refine b_X10_hoursOf_0 hG hP hy ?_
  have loop : ∀ (W2 W1 : List Nat) (s : Int32), W = W1 ++ W2 → J l mX10_hoursOf (jZ0 0 G (pI fun x μ' => μ' = μ ∧ x = sumW (fun k => nI (T 3 k)) W2 s)) G 0 0 4 [.ref 12, .ref y, .int s, .int (nI W1.length)] [] μ := by
    intro W2
    induction W2 with
    | nil =>
      intro W1 s hWW
      rw [List.append_nil] at hWW
      have hle : μ.1 y 5 ≤ nI W1.length := by rw [h5, hWW]; exact nI_le (Nat.le_refl _) (by rw [← hWW]; omega)
      exact b_X10_hoursOf_4 hG hP ht hy q0 (fun _ => ⟨rfl, rfl⟩) (fun h => absurd hle h) (fun h => absurd hle h) (fun h => absurd hle h)
    | cons k W2 ih =>
      intro W1 s hWW
      have hlen : W1.length < W.length := by rw [hWW]; simp
      have hk : k < T 0 1 := hW k (by rw [hWW]; simp)
      have hgt : ¬ μ.1 y 5 ≤ nI W1.length := by rw [h5]; exact nI_ge hlen (by omega)
      have hk3 : μ.1 (y + 3) (nI W1.length).toNatClampNeg = nI k := by
        rw [nI_clamp (by omega)]; exact h3 _ _ (by rw [hWW]; simp)
      refine b_X10_hoursOf_4 hG hP ht hy q0 (fun h => absurd h hgt) (fun _ => vp_in_nI (by omega) (by decide)) (fun _ => by rw [hk3]; exact vp_in_nI (by omega) (by decide)) (fun _ => ?_)
      rw [hk3, nI_clamp (by omega), (hx.2.2.1 k hk).2.2.1, nI_inc]
      have := ih (W1 ++ [k]) (s + nI (T 3 k)) (by rw [hWW]; simp)
      rw [show (W1 ++ [k]).length = W1.length + 1 by simp] at this
      exact this
  exact loop W [] 0 rfl
theorem c_X10_paidOn (hG : gGG G) {μ : jM} (hP : gPP μ) {y nr : Nat} {W : List Nat} {ow : Nat → Int32} (hy : tO gWay pWay G μ y) (hnr : nr ≤ 12) (h5 : μ.1 y 5 = nI W.length) (h8 : W.length ≤ 8) (h3 : ∀ (j q : Nat), W[j]? = some q → μ.1 (y + 3) j = nI q) (hW : ∀ k ∈ W, k < nr) (ho : ∀ k ∈ W, μ.1 (y + 2) k = ow k) (c : Int32) :
    jC0 l mX10_paidOn 1 G [.ref 12, .ref y, .int c] μ (pI fun x μ' => μ' = μ ∧ x = if c < sumW ow W 0 then c else sumW ow W 0) := by
  refine jC0.of' (ls := [.ref 12, .ref y, .int c, .null, .null]) rfl rfl rfl (fun _ _ => Nat.le_of_ble_eq_true rfl) ?_
  refine b_X10_paidOn_0 hG hP hy ?_
  have loop : ∀ (W2 W1 : List Nat) (s : Int32), W = W1 ++ W2 → J l mX10_paidOn (jZ0 1 G (pI fun x μ' => μ' = μ ∧ x = if c < sumW ow W2 s then c else sumW ow W2 s)) G 0 0 5 [.null, .ref y, .int c, .int s, .int (nI W1.length)] [] μ := by
    intro W2
    induction W2 with
    | nil =>
      intro W1 s hWW
      rw [List.append_nil] at hWW
      have hle : μ.1 y 5 ≤ nI W1.length := by rw [h5, hWW]; exact nI_le (Nat.le_refl _) (by rw [← hWW]; omega)
      exact b_X10_paidOn_5 hG hP hy (fun _ => ⟨rfl, rfl⟩) (fun h => absurd hle h) (fun h => absurd hle h) (fun h => absurd hle h)
    | cons k W2 ih =>
      intro W1 s hWW
      have hlen : W1.length < W.length := by rw [hWW]; simp
      have hkW : k ∈ W := by rw [hWW]; simp
      have hk : k < nr := hW k hkW
      have hgt : ¬ μ.1 y 5 ≤ nI W1.length := by rw [h5]; exact nI_ge hlen (by omega)
      have hk3 : μ.1 (y + 3) (nI W1.length).toNatClampNeg = nI k := by
        rw [nI_clamp (by omega)]; exact h3 _ _ (by rw [hWW]; simp)
      refine b_X10_paidOn_5 hG hP hy (fun h => absurd h hgt) (fun _ => vp_in_nI (by omega) (by decide)) (fun _ => by rw [hk3]; exact vp_in_nI (by omega) (by decide)) (fun _ => ?_)
      rw [hk3, nI_clamp (by omega), ho k hkW, nI_inc]
      have := ih (W1 ++ [k]) (s + ow k) (by rw [hWW]; simp)
      rw [show (W1 ++ [k]).length = W1.length + 1 by simp] at this
      exact this
  exact loop W [] 0 rfl
/-- the cells that finding WAYS writes -/
def faI (t c : Nat) : Prop := (17 ≤ c ∧ c ≤ 51) ∨ scI t c
theorem fnI_fa {t a c : Nat} (ha : a < 7) (h : fnI t a c) : faI t c := by
  rcases h with h | h
  · exact Or.inl (by omega)
  · exact Or.inr h
/-- the WAY found, by its words -/
theorem wyC_W {μ : jM} {y : Nat} {T : sT} {Lw : Nat → sLaw} {S : sR} {lots od : Int32} {a : Nat} (h : wyC μ y T (sPr T Lw S lots od a) (T 6 a) (T 5 a)) (hI : sDs T Lw lots od S a (T 5 a) < INF) : μ.1 y 6 = nI (sDs T Lw lots od S a (T 5 a)) ∧ μ.1 y 5 = nI (sWl T Lw lots od S a).length ∧ (∀ (j q : Nat), (sWl T Lw lots od S a)[j]? = some q → μ.1 (y + 3) j = nI q) ∧ μ.1 y 7 = bitsW (sWl T Lw lots od S a) 0 := by
  refine ⟨h.1, ?_⟩
  rcases h.2 with ⟨-, z⟩ | ⟨z, -⟩
  · exact z
  · exact absurd hI z
theorem c_X10_freeGhosts (hG : gGG G) {μ : jM} (hP : gPP μ) {t r B : Nat} {T : sT} {Lw : Nat → sLaw} {S : sR} {od lots th : Int32} (hS : enS G μ t r T Lw S od lots th B) :
    jC0 l mX10_freeGhosts 4 G [.ref 12] μ (pI fun x μ' => x = sFr T Lw lots od S (T 0 2) ∧ enS G μ' t r T Lw S od lots th B ∧ cOff (faI t) (scL t) μ μ') := by
  refine jC0.of' (ls := [.ref 12, .null, .null]) rfl rfl rfl (fun _ _ => Nat.le_of_ble_eq_true rfl) ?_
  have hv := hS.1.1.2.2.2.2.2.1.2.2.2.2.2
  have h7 := hv.1.2.2.1
  have h12 := hv.1.2.1
  refine b_X10_freeGhosts_0 hG hP ?_
  have loop : ∀ i, i ≤ T 0 2 → ∀ (μ1 : jM), enS G μ1 t r T Lw S od lots th B → cOff (faI t) (scL t) μ μ1 → J l mX10_freeGhosts (jZ0 4 G (pI fun x μ' => x = sFr T Lw lots od S (T 0 2) ∧ enS G μ' t r T Lw S od lots th B ∧ cOff (faI t) (scL t) μ μ')) G 0 0 4 [.ref 12, .int (sFr T Lw lots od S i), .int (nI i)] [] μ1 := by
    refine up_loop (T 0 2) ?_ (fun i hi ih => ?_)
    · intro μ1 hS1 ho1
      have hx1 := hS1.1.1.2.2.2.2.2.1
      have hle : μ1.1 t 2 ≤ nI (T 0 2) := by rw [hx1.2.1.2.2.1]; exact nI_le (Nat.le_refl _) (by omega)
      exact b_X10_freeGhosts_4 (ψ1 := fun _ _ => True) hG (ho1.gPP hP) hS1.1.1.1 hS1.1.1.2.1 (fun _ => ⟨rfl, hS1, ho1⟩) (fun h => absurd hle h) (fun h => absurd hle h)
    · intro μ1 hS1 ho1
      have hP1 := ho1.gPP hP
      have hx1 := hS1.1.1.2.2.2.2.2.1
      have hgt : ¬ μ1.1 t 2 ≤ nI i := by rw [hx1.2.1.2.2.1]; exact nI_ge hi (by omega)
      refine b_X10_freeGhosts_4 hG hP1 hS1.1.1.1 hS1.1.1.2.1 (fun h => absurd h hgt) (fun _ => c_X10_findWay hG hP1 hS1 hi) (fun _ => ?_)
      rintro x μ2 ⟨rfl, ho2, hS2, hdb2, hwy2⟩
      have hP2 := ho2.gPP hP1
      have ho2' : cOff (faI t) (scL t) μ μ2 := ho1.trans (ho2.mono (fun c hc => fnI_fa (by omega) hc) (fun c hc => hc))
      have hno : ¬ sFree T Lw lots od S i → sFr T Lw lots od S (i + 1) = sFr T Lw lots od S i := fun z => if_neg z
      have hyes : sFree T Lw lots od S i → sFr T Lw lots od S (i + 1) = sFr T Lw lots od S i ||| (1 <<< (nI i &&& 31)) := fun z => if_pos z
      have ci : (nI i).toNatClampNeg = i := nI_clamp (by omega)
      have r4 : μ2.1 r 4 = S 64 := by rw [hS2.1.2.1]; rfl
      have hnext := ih μ2 hS2 ho2'
      refine b_X10_freeGhosts_20 (y := 17 + 5 * i) hG hP2 hS2.1.1.2.2.2.2.1 (tO_way hG hP2 (by omega)) hS2.1.1.2.2.1 (fun h => ?_) (fun _ => vp_in_nI (by omega) (by decide)) (fun _ => by rw [ci]; exact way_ref hP2 (by omega)) (fun h1 h2 => ?_) (fun h1 h2 => ?_)
      · rw [nI_inc]
        rw [hno (fun z => by rw [if_pos z.1] at h; exact absurd h (by decide))] at hnext
        exact hnext
      · have hI : sDs T Lw lots od S i (T 5 i) < INF := Classical.byContradiction (fun z => by rw [if_neg z] at h1; exact h1 rfl)
        obtain ⟨-, -, -, w7⟩ := wyC_W hwy2 hI
        rw [r4, way_free w7 (fun k hk => by have := (sWl_in hv hI).2 k hk; omega)] at h2
        rw [nI_inc]
        rw [hno (fun z => h2 z.2)] at hnext
        exact hnext
      · have hI : sDs T Lw lots od S i (T 5 i) < INF := Classical.byContradiction (fun z => by rw [if_neg z] at h1; exact h1 rfl)
        obtain ⟨-, -, -, w7⟩ := wyC_W hwy2 hI
        rw [r4, way_free w7 (fun k hk => by have := (sWl_in hv hI).2 k hk; omega)] at h2
        rw [nI_inc]
        rw [hyes ⟨hI, h2⟩] at hnext
        exact hnext
  exact loop 0 (by omega) μ hS cOff.refl
/-- a text begins -/
theorem c_X10_begin (hG : gGG G) {μ : jM} (hP : gPP μ) {d : Nat} {T : sT} {Lw : Nat → sLaw} (hdd : d = 70 ∨ d = 91) (ht : tO gTold pTold G μ d) (hx : txC μ d T Lw) (hk : kcI μ d T Lw) :
    jC0 l mX10_begin 0 G [.ref 12, .ref d] μ (pV fun μ' => peI G μ' d T Lw ∧ cOff (fun c => ∃ a, a < 7 ∧ c = 17 + 5 * a) (fun c => c = 12) (wP μ 12 0 (some d)) μ') := by
  refine jC0.of' (ls := [.ref 12, .ref d, .null]) rfl rfl rfl (fun _ _ => Nat.le_of_ble_eq_true rfl) ?_
  have h7 := hx.2.2.2.2.2.1.2.2.1
  refine b_X10_begin_0 hG hP ht ?_
  obtain ⟨μ0, h0e⟩ : ∃ μ0, μ0 = wP μ 12 0 (some d) := ⟨_, rfl⟩
  have hP0 : gPP μ0 := by rw [h0e]; exact gPP_wP rfl hP
  have e1 : μ0.1 = μ.1 := by rw [h0e]; rfl
  have e2 : μ0.2.1 = μ.2.1 := by rw [h0e]; rfl
  have ht0 : tO gTold pTold G μ0 d := by rw [h0e]; exact tO_wP (fun c hc => by omega) pTold_in ht
  have q0 : μ0.2.2 12 0 = some d := by rw [h0e, wP_at]
  rw [← h0e]
  refine b_X10_begin_5 hG hP0 ?_
  have loop : ∀ i, i ≤ 7 → ∀ μ1, cOff (fun c => ∃ a, a < 7 ∧ c = 17 + 5 * a) (fun c => c = 12) μ0 μ1 → μ1.2.1 12 7 = -1 → (∀ a, a < i → μ1.1 (17 + 5 * a) 0 = 0) → J l mX10_begin (jZ0 0 G (pV fun μ' => peI G μ' d T Lw ∧ cOff (fun c => ∃ a, a < 7 ∧ c = 17 + 5 * a) (fun c => c = 12) μ0 μ')) G 0 0 14 [.ref 12, .null, .int (nI i)] [] μ1 := by
    refine up_loop 7 ?_ (fun i hi ih => ?_)
    · intro μ1 ho1 h17 hw1
      have hP1 := ho1.gPP hP0
      refine b_X10_begin_14 (y := 17) hG hP1 (tO_way hG hP1 (a := 0) (by decide)) (fun _ => ⟨⟨ho1.tO ht0, by rw [ho1.1]; exact q0, ?_, ?_, Or.inl h17, fun a ha => Or.inl (hw1 a (by omega))⟩, ho1⟩) (fun h => absurd (by decide) h) (fun h => absurd (by decide) h) (fun h => absurd (by decide) h)
      · have hx0 : txC μ0 d T Lw := by unfold txC lwC at hx ⊢; rw [e1, e2]; exact hx
        exact txC_off ho1 hx0 (by rintro c h1 h2 ⟨a, h3, h4⟩; omega) (fun c h1 h2 h3 => by omega)
      · have hk0 : kcI μ0 d T Lw := by unfold kcI at hk ⊢; rw [e1, e2]; exact hk
        exact kcI_low ho1 hdd (by rintro c ⟨a, h3, h4⟩; omega) (fun c h3 => by omega) hk0
    · intro μ1 ho1 h17 hw1
      have hP1 := ho1.gPP hP0
      refine b_X10_begin_14 (y := 17 + 5 * i) hG hP1 (tO_way hG hP1 hi) (fun h => absurd h (nI_ge (b := 7) hi (by decide))) (fun _ => vp_in_nI hi (by decide)) (fun _ => by rw [nI_clamp (by omega)]; exact way_ref hP1 hi) (fun _ => ?_)
      rw [nI_inc]
      refine ih _ (ho1.trans (cOff_wI ⟨i, hi, rfl⟩)) h17 (fun a ha => ?_)
      by_cases e : a = i
      · rw [e, wI_at]
      · rw [wI_ne (by omega)]; exact hw1 a (by omega)
  refine loop 0 (by omega) _ (cOff_wL rfl) ?_ (fun a ha => by omega)
  rw [wL_eq]; exact pk_uLs
end WorldC
