/-! THE CLASS: Arrays.fill; what is left; the WAY -/
section Fill
variable {l : Launch} {G : jG}
theorem c_fill_II (hG : gGG G) {μ : jM} (hP : gPP μ) {c n : Nat} (hc : G[c]? = some (0, n)) (hn : n < 2 ^ 31) (x : Int32) : jC0 l mJA_fill_II 0 G [.ref c, .int x] μ (pV fun μ' => ∃ F, μ' = sI μ c F ∧ (∀ i, i < n → F i = x) ∧ ∀ i, n ≤ i → F i = μ.1 c i) := by
  refine jC0.of' (ls := [.ref c, .int x, .null, .null]) rfl rfl rfl (fun _ _ => Nat.le_of_ble_eq_true rfl) ?_
  refine b_JA_fill_II_0 hG hP hc ?_
  have loop : ∀ i, i ≤ n → ∀ F : Nat → Int32, (∀ j, j < i → F j = x) → (∀ j, n ≤ j → F j = μ.1 c j) → J l mJA_fill_II (jZ0 0 G (pV fun μ' => ∃ F, μ' = sI μ c F ∧ (∀ i, i < n → F i = x) ∧ ∀ i, n ≤ i → F i = μ.1 c i)) G 0 0 5 [.ref c, .int x, .int (nI i), .int (nI n)] [] (sI μ c F) := by
    refine up_loop n ?_ (fun i hi ih => ?_)
    · intro F h1 h2
      have hle : nI n ≤ nI n := nI_le (Nat.le_refl _) hn
      exact b_JA_fill_II_5 (μ := sI μ c F) hG hP hc (fun _ => ⟨F, rfl, h1, h2⟩) (fun h => absurd hle h) (fun h => absurd hle h)
    · intro F h1 h2
      refine b_JA_fill_II_5 (μ := sI μ c F) hG hP hc (fun h => absurd h (nI_ge hi hn)) (fun _ => vp_in_nI hi hn) (fun _ => ?_)
      rw [nI_inc, nI_clamp (by omega), wI_sI]
      refine ih _ (fun j hj => ?_) (fun j hj => by rw [upd_ne (by omega)]; exact h2 j hj)
      by_cases h : j = i
      · rw [h, upd_at]
      · rw [upd_ne h]; exact h1 j (by omega)
  have := loop 0 (by omega) (μ.1 c) (fun j hj => by omega) (fun _ _ => rfl)
  rw [sI_self] at this
  exact this
end Fill
theorem feas_le {T : sT} {pr d f : Nat → Nat} {goal : Nat} (hd : isD T pr goal d) (hp : ∀ k, k < T 0 1 → 1 ≤ pr k) (hg : f goal = 0) (hI : ∀ p, f p ≤ INF) (hf : ∀ k, k < T 0 1 → ∀ p o, thr T k p = some o → f p ≤ f o + pr k) : ∀ p, f p ≤ d p := by
  have key : ∀ n p, d p ≤ n → f p ≤ d p := by
    intro n
    induction n with
    | zero =>
      intro p hn
      by_cases h : p = goal
      · rw [h, hg]; omega
      · obtain ⟨k, hk, o, -, h2⟩ := hd.2.2.2 p h (by simp [INF]; omega)
        have := hp k hk; omega
    | succ n ih =>
      intro p hn
      by_cases h : p = goal
      · rw [h, hg]; omega
      · by_cases hi : d p < INF
        · obtain ⟨k, hk, o, h1, h2⟩ := hd.2.2.2 p h hi
          have h3 := hp k hk
          have h4 := ih o (by omega)
          have h5 := hf k hk p o h1
          omega
        · have := hI p; omega
  exact fun p => key _ p (Nat.le_refl _)
theorem thr_1 {T : sT} {k : Nat} : thr T k (T 1 k) = some (T 2 k) := by simp [thr]
theorem thr_2 {T : sT} {k : Nat} (h : T 1 k ≠ T 2 k) : thr T k (T 2 k) = some (T 1 k) := by simp [thr, h]
theorem thr_only {T : sT} {k p o : Nat} (h : thr T k p = some o) : (p = T 1 k ∧ o = T 2 k) ∨ (p = T 2 k ∧ o = T 1 k) := by
  unfold thr at h
  split at h
  · next e => cases h; exact Or.inl ⟨e.symm, rfl⟩
  · split at h
    · next e => cases h; exact Or.inr ⟨e.symm, rfl⟩
    · cases h
def lfC (F : Nat → Int32) (g : Nat → Nat) : Prop := ∀ p, p < 8 → F p = nI (g p)
theorem lfC_w {F : Nat → Int32} {g : Nat → Nat} {p x : Nat} (h : lfC F g) : lfC (upd F p (nI x)) (upN g p x) := by
  intro q hq
  unfold upN
  by_cases h1 : q = p
  · rw [h1, upd_at, if_pos rfl]
  · rw [upd_ne h1, if_neg h1]; exact h q hq
section WayC
variable {l : Launch} {G : jG}
set_option maxHeartbeats 1000000 in
theorem c_X9_measure (hG : gGG G) {μ : jM} (hP : gPP μ) {t y goal : Nat} {T : sT} {Lw : Nat → sLaw} {pr : Nat → Nat} (ht : tO gTold pTold G μ t) (hy : tO gWay pWay G μ y) (hx : txC μ t T Lw) (hyr : 17 ≤ y ∧ y ≤ 47) (hpr : prOK T pr) (hc : ∀ k, k < T 0 1 → μ.1 (y + 1) k = nI (pr k)) (hg : goal < T 0 0) : jC0 l mX9_measure 1 G [.ref y, .ref t, .int (nI goal)] μ (pV fun μ' => ∃ F, μ' = sI μ (y + 4) F ∧ lfC F (sD T pr goal)) := by
  refine jC0.of' (ls := [.ref y, .ref t, .int (nI goal), .null, .null, .null, .null, .null, .null, .null, .null, .null]) rfl rfl rfl (fun _ _ => Nat.le_of_ble_eq_true rfl) ?_
  have hvt := hx.2.2.2.2.2
  have hnk := hvt.1.2.1
  have hn0 := hvt.1.1
  have ht2 := hx.1
  have hp1 : ∀ k, k < T 0 1 → 1 ≤ pr k := fun k hk => (hpr k hk).1
  have hpI : ∀ k, k < T 0 1 → pr k ≤ INF := fun k hk => by have := (hpr k hk).2; simp only [INF] at *; omega
  have hd := sD_is hvt (goal := goal) hp1
  generalize sD T pr goal = d at hd ⊢
  obtain ⟨φ, hφ⟩ : ∃ φ : jM → Prop, φ = fun μ' => ∃ F, μ' = sI μ (y + 4) F ∧ lfC F d := ⟨_, rfl⟩
  rw [← hφ]
  have n1 : t + 1 ≠ y + 4 := by omega
  have n2 : t + 2 ≠ y + 4 := by omega
  have nt : t ≠ y + 4 := by omega
  have np : y + 1 ≠ y + 4 := by omega
  -- a round: road by road, from the last one
  have roads : ∀ (n : Nat), n < 8 → ∀ (f : Nat → Nat), snd8 d f goal → (∀ (F : Nat → Int32) (g : Nat → Nat) (bt : Int32), lfC F g → snd8 d g goal → (∀ k, k < T 0 1 → ∀ q o, thr T k q = some o → g q ≤ f o + pr k) → (bt = 0 → g = f) → J l mX9_measure (jZ0 1 G (pV φ)) G 0 0 39 [.null, .ref t, .null, .ref (y + 4), .ref (y + 1), .ref (t + 1), .ref (t + 2), .int bt, .int (nI (n + 1)), .null, .null, .null] [] (sI μ (y + 4) F)) →
      ∀ j, j ≤ T 0 1 → ∀ (F : Nat → Int32) (g : Nat → Nat) (bt : Int32), lfC F g → snd8 d g goal → (∀ q, g q ≤ f q) → (∀ k, j ≤ k → k < T 0 1 → ∀ q o, thr T k q = some o → g q ≤ f o + pr k) → (bt = 0 → g = f) → J l mX9_measure (jZ0 1 G (pV φ)) G 0 0 62 [.null, .ref t, .null, .ref (y + 4), .ref (y + 1), .ref (t + 1), .ref (t + 2), .int bt, .int (nI n), .int (nI j - 1), .null, .null] [] (sI μ (y + 4) F) := by
    intro n hn f hf next j
    induction j with
    | zero =>
      intro _ F g bt hl hs hle hk hb
      have hneg : nI 0 - 1 < 0 := by decide
      refine b_X9_measure_62 (μ := sI μ (y + 4) F) hG hP ht hy (fun _ => ?_) ?_ ?_ ?_ ?_ ?_ ?_
      · rw [nI_inc]; exact next F g bt hl hs (fun k hk' q o ho => hk k (by omega) hk' q o ho) hb
      all_goals (intro h; exact absurd hneg h)
    | succ j ih =>
      intro hj F g bt hl hs hle hk hb
      have hj' : j < T 0 1 := hj
      rw [nI_pred]
      have hnn : ¬ nI j < 0 := nI_pos (by omega)
      have cj : (nI j).toNatClampNeg = j := nI_clamp (by omega)
      obtain ⟨g1, g2, -, -⟩ := hx.2.2.1 j hj'
      obtain ⟨p1, p2, p12, -⟩ := hvt.2.1 j hj'
      have m1 : (sI μ (y + 4) F).1 (t + 1) (nI j).toNatClampNeg = nI (T 1 j) := by rw [cj, sI_ne n1]; exact g1
      have m2 : (sI μ (y + 4) F).1 (t + 2) (nI j).toNatClampNeg = nI (T 2 j) := by rw [cj, sI_ne n2]; exact g2
      have mp : (sI μ (y + 4) F).1 (y + 1) (nI j).toNatClampNeg = nI (pr j) := by rw [cj, sI_ne np]; exact hc j hj'
      have c1 : (nI (T 1 j)).toNatClampNeg = T 1 j := nI_clamp (by omega)
      have c2 : (nI (T 2 j)).toNatClampNeg = T 2 j := nI_clamp (by omega)
      have f1 : (sI μ (y + 4) F).1 (y + 4) (T 1 j) = nI (g (T 1 j)) := by rw [sI_eq]; exact hl _ (by omega)
      have f2 : (sI μ (y + 4) F).1 (y + 4) (T 2 j) = nI (g (T 2 j)) := by rw [sI_eq]; exact hl _ (by omega)
      have b1 := hs.2.1 (T 1 j)
      have b2 := hs.2.1 (T 2 j)
      have bp := hpI j hj'
      have q1 := hp1 j hj'
      have le1 : (nI (g (T 1 j)) ≤ nI (g (T 2 j)) + nI (pr j)) ↔ g (T 1 j) ≤ g (T 2 j) + pr j := by rw [nI_add]; exact nI_leI (by simp only [INF] at *; omega) (by simp only [INF] at *; omega)
      have le2 : (nI (g (T 2 j)) ≤ nI (g (T 1 j)) + nI (pr j)) ↔ g (T 2 j) ≤ g (T 1 j) + pr j := by rw [nI_add]; exact nI_leI (by simp only [INF] at *; omega) (by simp only [INF] at *; omega)
      -- what the two looks do together
      have t1 := thr_1 (T := T) (k := j)
      have t2 := thr_2 p12
      have stp : ∀ (F' : Nat → Int32) (g' : Nat → Nat) (bt' : Int32), lfC F' g' → snd8 d g' goal → (∀ q, g' q ≤ g q) → g' (T 1 j) ≤ g (T 2 j) + pr j → g' (T 2 j) ≤ g (T 1 j) + pr j → (bt' = 0 → g' = f) → J l mX9_measure (jZ0 1 G (pV φ)) G 0 0 62 [.null, .ref t, .null, .ref (y + 4), .ref (y + 1), .ref (t + 1), .ref (t + 2), .int bt', .int (nI n), .int (nI j + (-1)), .null, .null] [] (sI μ (y + 4) F') := by
        intro F' g' bt' hl' hs' hle' e1 e2 hb'
        rw [show nI j + (-1) = nI j - 1 from (Int32.sub_eq_add_neg (nI j) 1).symm]
        refine ih (by omega) F' g' bt' hl' hs' (fun q => Nat.le_trans (hle' q) (hle q)) (fun k hk1 hk2 q o ho => ?_) hb'
        by_cases hkj : k = j
        · subst hkj
          rcases thr_only ho with ⟨rfl, rfl⟩ | ⟨rfl, rfl⟩
          · have := hle (T 2 k); omega
          · have := hle (T 1 k); omega
        · exact Nat.le_trans (hle' q) (hk k (by omega) hk2 q o ho)
      refine b_X9_measure_62 (μ := sI μ (y + 4) F) hG hP ht hy (fun h => absurd h hnn) (fun _ => vp_in_nI (by omega) (by decide)) (fun _ => by rw [m1]; exact vp_in_nI (by omega) (by decide)) (fun _ => by rw [m2]; exact vp_in_nI (by omega) (by decide)) (fun _ h1 h2 => ?_) (fun _ h1 h2 => ?_) (fun _ h1 => ?_)
      · rw [m1, m2, mp, c1, c2, f1, f2, le1] at h1
        rw [m1, m2, mp, c1, c2, f1, f2, le2] at h2
        exact stp F g bt hl hs (fun _ => Nat.le_refl _) h1 h2 hb
      · rw [m1, m2, mp, c1, c2, f1, f2, le1] at h1
        rw [m1, m2, mp, c1, c2, f1, f2, le2] at h2
        rw [m1, m2, mp, c1, c2, f1, nI_add, wI_sI]
        have e : rlx T pr g j (T 2 j) = upN g (T 2 j) (g (T 1 j) + pr j) := by unfold rlx; rw [t2]; simp only; rw [if_pos (by omega)]
        refine stp _ (upN g (T 2 j) (g (T 1 j) + pr j)) 1 (lfC_w hl) ?_ ?_ ?_ ?_ (fun z => absurd z (by decide))
        · rw [← e]; exact rlx_snd hd hj' q1 hs
        · intro q; rw [← e]; exact rlx_le q
        · unfold upN; rw [if_neg p12]; exact h1
        · unfold upN; rw [if_pos rfl]; exact Nat.le_refl _
      · rw [m1, m2, mp, c1, c2, f1, f2, le1] at h1
        rw [m1, m2, mp, c1, c2, f2, nI_add, wI_sI]
        have e : rlx T pr g j (T 1 j) = upN g (T 1 j) (g (T 2 j) + pr j) := by unfold rlx; rw [t1]; simp only; rw [if_pos (by omega)]
        refine stp _ (upN g (T 1 j) (g (T 2 j) + pr j)) 1 (lfC_w hl) ?_ ?_ ?_ ?_ (fun z => absurd z (by decide))
        · rw [← e]; exact rlx_snd hd hj' q1 hs
        · intro q; rw [← e]; exact rlx_le q
        · unfold upN; rw [if_pos rfl]; exact Nat.le_refl _
        · unfold upN; rw [if_neg (fun z => p12 z.symm)]; omega
  have rounds : ∀ n, n ≤ 8 → ∀ (F : Nat → Int32) (g : Nat → Nat) (bt : Int32), lfC F g → snd8 d g goal → stl d g n → (bt = 0 → ∀ p, g p = d p) → J l mX9_measure (jZ0 1 G (pV φ)) G 0 0 39 [.null, .ref t, .null, .ref (y + 4), .ref (y + 1), .ref (t + 1), .ref (t + 2), .int bt, .int (nI n), .null, .null, .null] [] (sI μ (y + 4) F) := by
    refine up_loop 8 ?_ (fun n hn ih => ?_)
    · intro F g bt hl hs hst hb
      refine b_X9_measure_39 (μ := sI μ (y + 4) F) hG hP ht hy (fun _ => ?_) (fun h => absurd (by decide) h) (fun h => absurd (by decide) h)
      rw [hφ]
      exact ⟨F, rfl, fun p hp => by rw [hl p hp, stl_all hs hst (by omega) p hp]⟩
    · intro F g bt hl hs hst hb
      refine b_X9_measure_39 (μ := sI μ (y + 4) F) hG hP ht hy (fun h => absurd h (nI_ge (b := 8) hn (by decide))) (fun _ h => ?_) (fun _ h => ?_)
      · rw [hφ]
        exact ⟨F, rfl, fun p hp => by rw [hl p hp, hb h p]⟩
      · have hnr : (sI μ (y + 4) F).1 t 1 = nI (T 0 1) := by rw [sI_ne nt]; exact hx.2.1.2.1
        rw [hnr]
        refine roads n hn g hs (fun F' g' bt' hl' hs' hk' hb' => ?_) (T 0 1) (Nat.le_refl _) F g 0 hl hs (fun _ => Nat.le_refl _) (fun k h1 h2 => by omega) (fun _ => rfl)
        refine ih F' g' bt' hl' hs' (stl_next hvt hd hp1 hst hs'.1 hs'.2.1 hk') (fun z p => ?_)
        have e := hb' z
        subst e
        exact Nat.le_antisymm (feas_le hd hp1 hs'.1 hs'.2.1 hk' p) (hs'.2.2 p)
  have hgy : G[y + 4]? = some (0, 8) := hy.1 4 (0, 8) rfl
  refine b_X9_measure_0 hG hP ht hy (c_fill_II hG hP hgy (by decide) _) ?_
  rintro μ1 ⟨F, rfl, hF, -⟩
  refine b_X9_measure_29 (μ := sI μ (y + 4) F) hG hP ht hy (vp_in_nI (by omega) (by decide)) ?_
  rw [nI_clamp (by omega), wI_sI]
  refine rounds 0 (by omega) _ (fun p => if p = goal then 0 else INF) 1 (fun p hp => ?_) ⟨by simp, fun p => by by_cases h : p = goal <;> simp [h], fun p => ?_⟩ (stl_0 (by omega) hd hp1 (by simp) (fun p => by by_cases h : p = goal <;> simp [h])) (fun z => absurd z (by decide))
  · by_cases h : p = goal
    · rw [h, upd_at]; simp; rfl
    · rw [upd_ne h, hF p hp]; simp [h]; rfl
  · by_cases h : p = goal
    · simp [h, hd.1]
    · simp [h]; exact hd.2.1 p
end WayC
