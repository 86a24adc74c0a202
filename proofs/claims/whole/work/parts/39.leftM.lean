/-! THE REFERENCE: what is left to the goal -/
def bnd (g : Nat → Nat) (s : Nat) : Prop := ∀ p, g p < INF → g p ≤ 207 * s
def prOK (T : sT) (pr : Nat → Nat) : Prop := ∀ k, k < T 0 1 → 1 ≤ pr k ∧ (pr k ≤ 207 ∨ pr k = INF)
theorem rlx_bnd {T : sT} {pr g : Nat → Nat} {j p s : Nat} (hp : prOK T pr) (hj : j < T 0 1) (hI : ∀ p, g p ≤ INF) (hb : bnd g s) : bnd (rlx T pr g j p) (s + 1) := by
  intro q hq
  unfold rlx at hq ⊢
  cases ho : thr T j p with
  | none => rw [ho] at hq; simp only at hq ⊢; have := hb q hq; omega
  | some o =>
    rw [ho] at hq; simp only at hq ⊢
    by_cases h : g o + pr j < g p
    · rw [if_pos h] at hq ⊢
      unfold upN at hq ⊢
      by_cases h2 : q = p
      · rw [if_pos h2] at hq ⊢
        have h3 := hb o (by omega)
        have h4 := (hp j hj).2
        omega
      · rw [if_neg h2] at hq ⊢; have := hb q hq; omega
    · rw [if_neg h] at hq ⊢; have := hb q hq; omega
def lf (μ : jM) (g : Nat → Nat) : Prop := ∀ p, p < 8 → μ.1 153 p = eD (g p)
theorem lf_w {μ : jM} {g : Nat → Nat} {p x : Nat} (h : lf μ g) (hp : p < 8) : lf (wI μ 153 p (eD x)) (upN g p x) := by
  intro q hq
  rw [wI_eq]
  unfold upN
  by_cases h1 : q = p
  · rw [h1, upd_at, if_pos rfl]
  · rw [upd_ne h1, if_neg h1]; exact h q hq
section LeftM
variable {l : Launch} {G : jG}
theorem eD_fin {n : Nat} (h : n < INF) : eD n = nI n := by rw [eD, if_pos h]
theorem eD_inf : eD INF = -1 := by decide
theorem c_X12_fillsLeft (hG : gMM G) {μ : jM} (hP : gNN μ) {v goal : Nat} {T : sT} {Lw : Nat → sLaw} {pr : Nat → Nat} (ht : txM μ v T Lw) (hpr : prOK T pr) (hc : ∀ k, k < T 0 1 → μ.1 154 k = eD (pr k)) (hg : goal < T 0 0) : jC0 l mX12_fillsLeft 1 G [.ref 112, .int (nI goal)] μ (pV fun μ' => mOff [153] [] μ μ' ∧ lf μ' (sD T pr goal)) := by
  refine jC0.of' (ls := [.ref 112, .int (nI goal), .null, .null, .null, .null, .null]) rfl rfl rfl (fun _ _ => Nat.le_of_ble_eq_true rfl) ?_
  have hv := ht.1.1
  have hvt := ht.2.2.2.2.2
  have hnk := ht.2.2.2.2.2.1.2.1
  have hn0 := ht.2.2.2.2.2.1.1
  have hp1 : ∀ k, k < T 0 1 → 1 ≤ pr k := fun k hk => (hpr k hk).1
  have hd := sD_is hvt (goal := goal) hp1
  generalize sD T pr goal = d at hd ⊢
  obtain ⟨φ, hφ⟩ : ∃ φ : jM → Prop, φ = fun μ' => mOff [153] [] μ μ' ∧ lf μ' d := ⟨_, rfl⟩
  rw [← hφ]
  -- the innermost loop: one place, the roads one by one
  have roads : ∀ (n p : Nat), n < 8 → p < T 0 0 → ∀ (f : Nat → Nat), (∀ (μ2 : jM) (g : Nat → Nat), mOff [153] [] μ μ2 → lf μ2 g → snd8 d g goal → bnd g (96 * n + 12 * (p + 1)) → (∀ q, g q ≤ f q) → (∀ k, k < T 0 1 → ∀ q o, q < p + 1 → thr T k q = some o → g q ≤ f o + pr k) → J l mX12_fillsLeft (jZ0 1 G (pV φ)) G 0 0 40 [.ref 112, .null, .int (nI n), .int (nI (p + 1)), .null, .null, .null] [] μ2) →
      ∀ j, j ≤ T 0 1 → ∀ (μ2 : jM) (g : Nat → Nat), mOff [153] [] μ μ2 → lf μ2 g → snd8 d g goal → bnd g (96 * n + 12 * p + j) → (∀ q, g q ≤ f q) → (∀ k, k < T 0 1 → ∀ q o, q < p → thr T k q = some o → g q ≤ f o + pr k) → (∀ k, k < j → ∀ o, thr T k p = some o → g p ≤ f o + pr k) → J l mX12_fillsLeft (jZ0 1 G (pV φ)) G 0 0 56 [.ref 112, .null, .int (nI n), .int (nI p), .int (nI j), .null, .null] [] μ2 := by
    intro n p hn hp f next
    refine up_loop (T 0 1) ?_ (fun j hj ih => ?_)
    · intro μ2 g hm2 hl hs hb hle hq hk
      have ht2 := txM_off hm2 ⟨by decide, by decide⟩ ht
      have hcl : (μ2.1 112 18).toNatClampNeg = v := ix_cl ht2.1.2 (by omega)
      have hle2 : μ2.1 123 (μ2.1 112 18).toNatClampNeg ≤ nI (T 0 1) := by rw [hcl, ht2.2.1.2.1]; exact nI_le (Nat.le_refl _) (by omega)
      refine b_X12_fillsLeft_56 (ψ1 := fun _ _ => True) hG (hm2.gNN hP) (ix_in ht2.1.2 hv (by decide)) (fun _ => ?_) (fun h => absurd hle2 h) (fun h => absurd hle2 h)
      rw [nI_inc]
      refine next μ2 g hm2 hl hs (fun q h => by have := hb q h; omega) hle (fun k hk' q o hq' ho => ?_)
      by_cases hqp : q = p
      · subst hqp; exact hk k hk' o ho
      · exact hq k hk' q o (by omega) ho
    · intro μ2 g hm2 hl hs hb hle hq hk
      have hP2 := hm2.gNN hP
      have ht2 := txM_off hm2 ⟨by decide, by decide⟩ ht
      have hcl : (μ2.1 112 18).toNatClampNeg = v := ix_cl ht2.1.2 (by omega)
      have hgt : ¬ μ2.1 123 (μ2.1 112 18).toNatClampNeg ≤ nI j := by rw [hcl, ht2.2.1.2.1]; exact nI_ge hj (by omega)
      have hjj : (nI j).toNatClampNeg = j := nI_clamp (by omega)
      have hpp : (nI p).toNatClampNeg = p := nI_clamp (by omega)
      have hcj : μ2.1 154 j = eD (pr j) := by rw [hm2.c 154]; exact hc j hj
      have hprj := hpr j hj
      have hprI : pr j ≤ INF := by simp only [INF]; have := hprj.2; simp only [INF] at this; omega
      -- the step, whatever it did
      have step : ∀ μ3, mOff [153] [] μ μ3 → lf μ3 (rlx T pr g j p) → J l mX12_fillsLeft (jZ0 1 G (pV φ)) G 0 0 56 [.ref 112, .null, .int (nI n), .int (nI p), .int (nI j + 1), .null, .null] [] μ3 := by
        intro μ3 hm3 hl3
        rw [nI_inc]
        refine ih μ3 _ hm3 hl3 (rlx_snd hd hj hprj.1 hs) (rlx_bnd hpr hj hs.2.1 hb) (fun q => Nat.le_trans (rlx_le q) (hle q)) (fun k hk' q o hq' ho => Nat.le_trans (rlx_le q) (hq k hk' q o hq' ho)) (fun k hk' o ho => ?_)
        by_cases hkj : k = j
        · subst hkj
          have h1 := rlx_at (pr := pr) (f := g) ho
          have h2 := hle o
          omega
        · exact Nat.le_trans (rlx_le p) (hk k (by omega) o ho)
      refine b_X12_fillsLeft_56 hG hP2 (ix_in ht2.1.2 hv (by decide)) (fun h => absurd h hgt) (fun _ => c_X12_through hG hP2 ht2 hj (by omega)) (fun _ => ?_)
      rintro r μ2 ⟨rfl, rfl⟩
      cases ho : thr T j p with
      | none =>
        simp only
        have e : rlx T pr g j p = g := by unfold rlx; rw [ho]
        have hneg : (-1 : Int32) < 0 := by decide
        refine b_X12_fillsLeft_77 hG hP2 (fun _ => step μ2 hm2 (by rw [e]; exact hl)) ?_ ?_ ?_ ?_ ?_ ?_ ?_ ?_
        all_goals (intro h; exact absurd hneg h)
      | some o =>
        simp only
        have ho8 := (thr_in hvt hj ho).2.1
        have hoo : (nI o).toNatClampNeg = o := nI_clamp (by omega)
        have hlo : μ2.1 153 o = eD (g o) := hl o ho8
        have hlp : μ2.1 153 p = eD (g p) := hl p (by omega)
        have hgoI := hs.2.1 o
        have hgpI := hs.2.1 p
        have hnn : ¬ nI o < 0 := nI_pos (by omega)
        have hcn : eD (pr j) < 0 ↔ pr j = INF := eD_neg hprI
        have hon : eD (g o) < 0 ↔ g o = INF := eD_neg hgoI
        have hpn : eD (g p) < 0 ↔ g p = INF := eD_neg hgpI
        have keep : ¬ g o + pr j < g p → lf μ2 (rlx T pr g j p) := fun h => by
          have e : rlx T pr g j p = g := by unfold rlx; rw [ho]; simp only; rw [if_neg h]
          rw [e]; exact hl
        have take : g o + pr j < g p → ∀ x, x = nI (pr j + g o) → lf (wI μ2 153 p x) (rlx T pr g j p) := fun h x hx => by
          have e : rlx T pr g j p = upN g p (g o + pr j) := by unfold rlx; rw [ho]; simp only; rw [if_pos h]
          rw [e, hx, show nI (pr j + g o) = eD (g o + pr j) from by rw [eD_fin (by omega), Nat.add_comm]]
          exact lf_w hl (by omega)
        have small : pr j < INF → g o < INF → g o + pr j < INF ∧ eD (pr j) + eD (g o) = nI (pr j + g o) := fun h1 h2 => by
          have h3 := hb o h2
          have h4 : pr j ≤ 207 := by have := hprj.2; omega
          refine ⟨by simp only [INF]; omega, by rw [eD_fin h1, eD_fin h2, nI_add]⟩
        refine b_X12_fillsLeft_77 hG hP2 (fun h => absurd h hnn) (fun _ => vp_in_nI (by omega) (by decide)) (fun _ h => ?_) (fun _ _ => vp_in_nI ho8 (by decide)) (fun _ _ _ => vp_in_nI (by omega) (by decide)) (fun _ h1 h2 h3 => ?_) (fun _ h1 h2 h3 h4 => ?_) (fun _ h1 h2 h3 h4 => ?_) (fun _ h1 h2 => ?_)
        · rw [hjj, hcj, hcn] at h
          exact step μ2 hm2 (keep (by omega))
        · rw [hjj, hcj, hcn] at h1
          rw [hoo, hlo] at h2
          rw [hpp, hlp, hpn] at h3
          have h2' : ¬ g o = INF := fun z => by rw [z, eD_inf] at h2; exact absurd h2 (by decide)
          obtain ⟨s1, s2⟩ := small (by omega) (by omega)
          rw [hpp, hjj, hoo, hcj, hlo, s2]
          exact step _ (hm2.trans (mOff_wC (by decide) (by decide))) (take (by omega) _ rfl)
        · rw [hjj, hcj, hcn] at h1
          rw [hoo, hlo] at h2
          rw [hpp, hlp, hpn] at h3
          have h2' : ¬ g o = INF := fun z => by rw [z, eD_inf] at h2; exact absurd h2 (by decide)
          obtain ⟨s1, s2⟩ := small (by omega) (by omega)
          rw [hpp, hjj, hoo, hcj, hlo, hlp, s2, eD_fin (by omega : g p < INF)] at h4
          have h5 := (nI_leI (by simp only [INF] at *; omega) (by simp only [INF] at *; omega)).mp h4
          exact step μ2 hm2 (keep (by omega))
        · rw [hjj, hcj, hcn] at h1
          rw [hoo, hlo] at h2
          rw [hpp, hlp, hpn] at h3
          have h2' : ¬ g o = INF := fun z => by rw [z, eD_inf] at h2; exact absurd h2 (by decide)
          obtain ⟨s1, s2⟩ := small (by omega) (by omega)
          rw [hpp, hjj, hoo, hcj, hlo, hlp, s2, eD_fin (by omega : g p < INF)] at h4
          have h5 : ¬ g p ≤ pr j + g o := fun z => h4 ((nI_leI (by simp only [INF] at *; omega) (by simp only [INF] at *; omega)).mpr z)
          rw [hpp, hjj, hoo, hcj, hlo, s2]
          exact step _ (hm2.trans (mOff_wC (by decide) (by decide))) (take (by omega) _ rfl)
        · rw [hoo, hlo] at h2
          have h2' : g o = INF := hon.mp (by rw [i32_lt]; rw [i32_le] at h2; have : (0 : Int32).toInt = 0 := rfl; omega)
          exact step μ2 hm2 (keep (by omega))
  -- a round: place by place
  have places : ∀ (n : Nat), n < 8 → ∀ (f : Nat → Nat), (∀ p, f p ≤ INF) → (∀ (μ2 : jM) (g : Nat → Nat), mOff [153] [] μ μ2 → lf μ2 g → snd8 d g goal → bnd g (96 * (n + 1)) → (∀ k, k < T 0 1 → ∀ q o, thr T k q = some o → g q ≤ f o + pr k) → J l mX12_fillsLeft (jZ0 1 G (pV φ)) G 0 0 32 [.ref 112, .null, .int (nI (n + 1)), .null, .null, .null, .null] [] μ2) →
      ∀ p, p ≤ T 0 0 → ∀ (μ2 : jM) (g : Nat → Nat), mOff [153] [] μ μ2 → lf μ2 g → snd8 d g goal → bnd g (96 * n + 12 * p) → (∀ q, g q ≤ f q) → (∀ k, k < T 0 1 → ∀ q o, q < p → thr T k q = some o → g q ≤ f o + pr k) → J l mX12_fillsLeft (jZ0 1 G (pV φ)) G 0 0 40 [.ref 112, .null, .int (nI n), .int (nI p), .null, .null, .null] [] μ2 := by
    intro n hn f hf next
    refine up_loop (T 0 0) ?_ (fun p hp ih => ?_)
    · intro μ2 g hm2 hl hs hb hle hq
      have ht2 := txM_off hm2 ⟨by decide, by decide⟩ ht
      have hcl : (μ2.1 112 18).toNatClampNeg = v := ix_cl ht2.1.2 (by omega)
      have hle2 : μ2.1 122 (μ2.1 112 18).toNatClampNeg ≤ nI (T 0 0) := by rw [hcl, ht2.2.1.1]; exact nI_le (Nat.le_refl _) (by omega)
      refine b_X12_fillsLeft_40 hG (hm2.gNN hP) (ix_in ht2.1.2 hv (by decide)) (fun _ => ?_) (fun h => absurd hle2 h)
      rw [nI_inc]
      exact next μ2 g hm2 hl hs (fun q h => by have := hb q h; omega) (fun k hk q o ho => hq k hk q o (thr_in hvt hk ho).2.2.2.1 ho)
    · intro μ2 g hm2 hl hs hb hle hq
      have ht2 := txM_off hm2 ⟨by decide, by decide⟩ ht
      have hcl : (μ2.1 112 18).toNatClampNeg = v := ix_cl ht2.1.2 (by omega)
      have hgt : ¬ μ2.1 122 (μ2.1 112 18).toNatClampNeg ≤ nI p := by rw [hcl, ht2.2.1.1]; exact nI_ge hp (by omega)
      refine b_X12_fillsLeft_40 hG (hm2.gNN hP) (ix_in ht2.1.2 hv (by decide)) (fun h => absurd h hgt) (fun _ => ?_)
      exact roads n p hn hp f ih 0 (by omega) μ2 g hm2 hl hs hb hle hq (fun k hk => by omega)
  -- the rounds
  have rounds : ∀ n, n ≤ 8 → ∀ (μ2 : jM) (g : Nat → Nat), mOff [153] [] μ μ2 → lf μ2 g → snd8 d g goal → bnd g (96 * n) → stl d g n → J l mX12_fillsLeft (jZ0 1 G (pV φ)) G 0 0 32 [.ref 112, .null, .int (nI n), .null, .null, .null, .null] [] μ2 := by
    refine up_loop 8 ?_ (fun n hn ih => ?_)
    · intro μ2 g hm2 hl hs hb hst
      refine b_X12_fillsLeft_32 hG (hm2.gNN hP) (fun _ => ?_) (fun h => absurd (by decide) h)
      rw [hφ]
      exact ⟨hm2, fun p hp => by rw [hl p hp, stl_all hs hst (by omega) p hp]⟩
    · intro μ2 g hm2 hl hs hb hst
      refine b_X12_fillsLeft_32 hG (hm2.gNN hP) (fun h => absurd h (nI_ge (b := 8) hn (by decide))) (fun _ => ?_)
      exact places n hn g hs.2.1 (fun μ3 g3 hm3 hl3 hs3 hb3 hk3 => ih μ3 g3 hm3 hl3 hs3 hb3 (stl_next hvt hd hp1 hst hs3.1 hs3.2.1 hk3)) 0 (by omega) μ2 g hm2 hl hs (by simpa using hb) (fun q => Nat.le_refl _) (fun k _ q o hq => by omega)
  -- at the start
  refine b_X12_fillsLeft_0 hG hP ?_
  have start : ∀ i, i ≤ 8 → ∀ μ2, mOff [153] [] μ μ2 → (∀ p, p < i → μ2.1 153 p = eD (if p = goal then 0 else INF)) → J l mX12_fillsLeft (jZ0 1 G (pV φ)) G 0 0 2 [.ref 112, .int (nI goal), .int (nI i), .null, .null, .null, .null] [] μ2 := by
    refine up_loop 8 ?_ (fun i hi ih => ?_)
    · intro μ2 hm2 hl
      refine b_X12_fillsLeft_2 hG (hm2.gNN hP) (fun _ => ?_) ?_ ?_ ?_ ?_
      · refine rounds 0 (by omega) μ2 (fun p => if p = goal then 0 else INF) hm2 hl ⟨by simp, fun p => by by_cases h : p = goal <;> simp [h], fun p => ?_⟩ (fun p h => ?_) (stl_0 (by omega) hd hp1 (by simp) (fun p => by by_cases h : p = goal <;> simp [h]))
        · by_cases h : p = goal
          · simp [h, hd.1]
          · simp [h]; exact hd.2.1 p
        · by_cases h2 : p = goal
          · simp [h2]
          · simp [h2] at h
      all_goals (intro h; exact absurd (by decide) h)
    · intro μ2 hm2 hl
      have hii : (nI i).toNatClampNeg = i := nI_clamp (by omega)
      have fin : ∀ x, x = eD (if i = goal then 0 else INF) → J l mX12_fillsLeft (jZ0 1 G (pV φ)) G 0 0 2 [.ref 112, .int (nI goal), .int (nI i + 1), .null, .null, .null, .null] [] (wI μ2 153 (nI i).toNatClampNeg x) := by
        rintro x rfl
        rw [nI_inc, hii]
        refine ih _ (hm2.trans (mOff_wC (by decide) (by decide))) (fun p hp => ?_)
        rw [wI_eq]
        by_cases h : p = i
        · rw [h, upd_at]
        · rw [upd_ne h]; exact hl p (by omega)
      refine b_X12_fillsLeft_2 hG (hm2.gNN hP) (fun h => absurd h (nI_ge (b := 8) hi (by decide))) (fun _ _ => vp_in_nI hi (by decide)) (fun _ h => ?_) (fun _ _ => vp_in_nI hi (by decide)) (fun _ h => ?_)
      · have : ¬ i = goal := fun z => h (by rw [z])
        exact fin _ (by rw [if_neg this]; exact eD_inf.symm)
      · have : i = goal := (nI_eq (by omega) (by omega)).mp h
        exact fin _ (by rw [if_pos this]; rfl)
  exact start 0 (by omega) μ mOff.refl (fun p hp => by omega)
end LeftM
