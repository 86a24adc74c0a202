/-! the WAY: at each PLACE the first ROAD by which it still is so -/
def tgtB (T : sT) (pr d : Nat → Nat) (p k : Nat) : Bool := match thr T k p with
  | some o => decide (d o + pr k = d p)
  | none => false
def fkF (P : Nat → Bool) : Nat → Nat
  | 0 => 0
  | n + 1 => if fkF P n < n then fkF P n else if P n then n else n + 1
theorem fkF_of {P : Nat → Bool} : ∀ (n k : Nat), k < n → P k = true → (∀ j, j < k → ¬ P j = true) → fkF P n = k := by
  intro n
  induction n with
  | zero => intro k hk; omega
  | succ n ih =>
    intro k hk h1 h2
    unfold fkF
    by_cases h : k < n
    · rw [ih k h h1 h2, if_pos h]
    · have e : k = n := by omega
      subst e
      have h3 : ∀ m, m ≤ k → fkF P m = m := by
        intro m
        induction m with
        | zero => intro _; rfl
        | succ m ihm => intro hm; unfold fkF; rw [ihm (by omega), if_neg (by omega), if_neg (h2 m (by omega))]
      rw [h3 k (Nat.le_refl _), if_neg (by omega), if_pos h1]
theorem first_ex {P : Nat → Bool} : ∀ (n : Nat), (∃ k, k < n ∧ P k = true) → ∃ k, k < n ∧ P k = true ∧ ∀ j, j < k → ¬ P j = true := by
  intro n
  induction n with
  | zero => rintro ⟨k, hk, -⟩; omega
  | succ n ih =>
    rintro ⟨k, hk, h⟩
    by_cases hn : ∃ k, k < n ∧ P k = true
    · obtain ⟨k, h1, h2, h3⟩ := ih hn; exact ⟨k, by omega, h2, h3⟩
    · have : k = n := by
        by_cases z : k < n
        · exact absurd ⟨k, z, h⟩ hn
        · omega
      subst this
      exact ⟨k, by omega, h, fun j hj hp => hn ⟨j, hj, hp⟩⟩
def sWy (T : sT) (pr d : Nat → Nat) (goal : Nat) : Nat → Nat → List Nat
  | 0, _ => []
  | n + 1, p => if p = goal then [] else fkF (tgtB T pr d p) (T 0 1) :: sWy T pr d goal n ((thr T (fkF (tgtB T pr d p) (T 0 1)) p).getD 0)
/-- at a PLACE that has a way on: its ROAD, the next PLACE -/
theorem way_next {T : sT} {Lw : Nat → sLaw} (hv : vT T Lw) {pr d : Nat → Nat} {goal p : Nat} (hd : isD T pr goal d) (hp1 : ∀ k, k < T 0 1 → 1 ≤ pr k) (hg : p ≠ goal) (hi : d p < INF) : ∃ k o, fkF (tgtB T pr d p) (T 0 1) = k ∧ k < T 0 1 ∧ thr T k p = some o ∧ d o + pr k = d p ∧ d o < d p ∧ o < 8 ∧ p < 8 ∧ (∀ j, j < k → ¬ tgtB T pr d p j = true) ∧ rk d o < rk d p := by
  obtain ⟨k0, hk0, o0, h1, h2⟩ := hd.2.2.2 p hg hi
  obtain ⟨k, hk, h3, h4⟩ := first_ex (P := tgtB T pr d p) (T 0 1) ⟨k0, hk0, by simp [tgtB, h1]; omega⟩
  cases ho : thr T k p with
  | none => simp [tgtB, ho] at h3
  | some o =>
    simp [tgtB, ho] at h3
    have h5 := hp1 k hk
    have h6 := thr_in hv hk ho
    refine ⟨k, o, fkF_of _ k hk (by simp [tgtB, ho]; exact h3) h4, hk, ho, h3, by omega, h6.2.1, h6.1, h4, rk_lt h6.2.1 (by omega)⟩
theorem sWy_len {T : sT} {pr d : Nat → Nat} {goal : Nat} : ∀ (n p : Nat), (sWy T pr d goal n p).length ≤ n := by
  intro n
  induction n with
  | zero => intro p; simp [sWy]
  | succ n ih =>
    intro p
    unfold sWy
    split
    · simp
    · simp; exact ih _
theorem sWy_in {T : sT} {Lw : Nat → sLaw} (hv : vT T Lw) {pr d : Nat → Nat} {goal : Nat} (hd : isD T pr goal d) (hp1 : ∀ k, k < T 0 1 → 1 ≤ pr k) : ∀ (n p : Nat), d p < INF → ∀ k ∈ sWy T pr d goal n p, k < T 0 1 := by
  intro n
  induction n with
  | zero => intro p _ k hk; simp [sWy] at hk
  | succ n ih =>
    intro p hp k hk
    unfold sWy at hk
    by_cases hg : p = goal
    · rw [if_pos hg] at hk; cases hk
    · rw [if_neg hg] at hk
      obtain ⟨k1, o, e1, h1, h2, h3, h4, -⟩ := way_next hv hd hp1 hg hp
      rw [e1, h2] at hk
      rcases List.mem_cons.mp hk with rfl | hk
      · exact h1
      · exact ih o (by omega) k hk
/-- what the reference's WAY is: its length, its ROADS -/
def wyM (μ : jM) (W : List Nat) : Prop := μ.1 112 65 = nI W.length ∧ ∀ (j q : Nat), W[j]? = some q → μ.1 156 j = nI q
section WayM
variable {l : Launch} {G : jG}
theorem c_X12_firstRoad (hG : gMM G) {μ : jM} (hP : gNN μ) {v goal p : Nat} {T : sT} {Lw : Nat → sLaw} {pr d : Nat → Nat} (ht : txM μ v T Lw) (hpr : prOK T pr) (hd : isD T pr goal d) (hc : ∀ k, k < T 0 1 → μ.1 154 k = eD (pr k)) (hl : lf μ d) (hg : p ≠ goal) (hi : d p < INF) : jC0 l mX12_firstRoad 1 G [.ref 112, .int (nI p)] μ (pI fun r μ' => μ' = μ ∧ r = nI (fkF (tgtB T pr d p) (T 0 1))) := by
  refine jC0.of' (ls := [.ref 112, .int (nI p), .null, .null]) rfl rfl rfl (fun _ _ => Nat.le_of_ble_eq_true rfl) ?_
  have hv := ht.1.1
  have hvt := ht.2.2.2.2.2
  have hnk := ht.2.2.2.2.2.1.2.1
  obtain ⟨k, o, e1, hk, ho, h3, h4, ho8, hp8, hno, -⟩ := way_next hvt hd (fun k hk => (hpr k hk).1) hg hi
  rw [e1]
  refine b_X12_firstRoad_0 hG hP ?_
  have hcl : (μ.1 112 18).toNatClampNeg = v := ix_cl ht.1.2 (by omega)
  have hpp : (nI p).toNatClampNeg = p := nI_clamp (by omega)
  have key : ∀ j, j ≤ k → J l mX12_firstRoad (jZ0 1 G (pI fun r μ' => μ' = μ ∧ r = nI k)) G 0 0 2 [.ref 112, .int (nI p), .int (nI j), .null] [] μ := by
    refine up_loop k ?_ (fun j hj ih => ?_)
    · have hgt : ¬ μ.1 123 (μ.1 112 18).toNatClampNeg ≤ nI k := by rw [hcl, ht.2.1.2.1]; exact nI_ge hk (by omega)
      refine b_X12_firstRoad_2 hG hP (ix_in ht.1.2 hv (by decide)) (fun h => absurd h hgt) (fun _ => c_X12_through hG hP ht hk hp8) (fun _ => ?_)
      rintro r μ ⟨rfl, rfl⟩
      rw [ho]; simp only
      have hkk : (nI k).toNatClampNeg = k := nI_clamp (by omega)
      have hoo : (nI o).toNatClampNeg = o := nI_clamp (by omega)
      have hprf : pr k < INF := by omega
      have hdo : d o < INF := by omega
      have n1 : ¬ nI o < 0 := nI_pos (by omega)
      have n2 : ¬ μ.1 154 (nI k).toNatClampNeg < 0 := by rw [hkk, hc k hk, eD_fin hprf]; exact nI_pos (by simp only [INF] at *; omega)
      have n3 : ¬ μ.1 153 (nI o).toNatClampNeg < 0 := by rw [hoo, hl o ho8, eD_fin hdo]; exact nI_pos (by simp only [INF] at *; omega)
      refine b_X12_firstRoad_21 hG hP (fun h => absurd h n1) (fun _ => vp_in_nI (by omega) (by decide)) (fun _ h => absurd h n2) (fun _ _ => vp_in_nI ho8 (by decide)) (fun _ _ h => absurd h n3) (fun _ _ _ => vp_in_nI hp8 (by decide)) (fun _ _ _ h => ?_) (fun _ _ _ _ => ⟨rfl, rfl⟩)
      exfalso
      rw [hkk, hoo, hpp, hc k hk, hl o ho8, hl p hp8, eD_fin hprf, eD_fin hdo, eD_fin hi, nI_add] at h
      exact h (by rw [← h3, Nat.add_comm])
    · have hjn : j < T 0 1 := by omega
      have hgt : ¬ μ.1 123 (μ.1 112 18).toNatClampNeg ≤ nI j := by rw [hcl, ht.2.1.2.1]; exact nI_ge hjn (by omega)
      have hjj : (nI j).toNatClampNeg = j := nI_clamp (by omega)
      have hn := hno j hj
      refine b_X12_firstRoad_2 hG hP (ix_in ht.1.2 hv (by decide)) (fun h => absurd h hgt) (fun _ => c_X12_through hG hP ht hjn hp8) (fun _ => ?_)
      rintro r μ ⟨rfl, rfl⟩
      have ih' := ih
      rw [← nI_inc] at ih'
      cases hoj : thr T j p with
      | none =>
        simp only
        refine b_X12_firstRoad_21 hG hP (fun _ => ih') ?_ ?_ ?_ ?_ ?_ ?_ ?_
        all_goals (intro h; exact absurd (by decide) h)
      | some o' =>
        simp only
        have ho8' := (thr_in hvt hjn hoj).2.1
        have hoo : (nI o').toNatClampNeg = o' := nI_clamp (by omega)
        simp [tgtB, hoj] at hn
        have n1 : ¬ nI o' < 0 := nI_pos (by omega)
        have hpI : pr j ≤ INF := by have := (hpr j hjn).2; simp only [INF] at *; omega
        refine b_X12_firstRoad_21 hG hP (fun h => absurd h n1) (fun _ => vp_in_nI (by omega) (by decide)) (fun _ _ => ih') (fun _ _ => vp_in_nI ho8' (by decide)) (fun _ _ _ => ih') (fun _ _ _ => vp_in_nI hp8 (by decide)) (fun _ _ _ _ => ih') (fun _ h1 h2 h => ?_)
        exfalso
        rw [hjj, hc j hjn] at h1
        rw [hoo, hl o' ho8'] at h2
        have f1 : pr j < INF := by
          have := mt (eD_neg hpI).mpr h1; omega
        have f2 : d o' < INF := by
          have := mt (eD_neg (hd.2.1 o')).mpr h2
          have := hd.2.1 o'; omega
        rw [hjj, hoo, hpp, hc j hjn, hl o' ho8', hl p hp8, eD_fin f1, eD_fin f2, eD_fin hi, nI_add] at h
        have := (nI_eq (by simp only [INF] at *; omega) (by simp only [INF] at *; omega)).mp h
        omega
  exact key 0 (by omega)
theorem c_X12_findsWay (hG : gMM G) {μ : jM} (hP : gNN μ) {v a : Nat} {T : sT} {Lw : Nat → sLaw} (ht : txM μ v T Lw) (ha : a < T 0 2) (hr : rtOK (μ.1 152) (μ.1 112 60)) :
    jC0 l mX12_findsWay 6 G [.ref 112, .int (nI a)] μ (pI fun r μ' => mOff [149, 150, 153, 154, 155, 156] [55, 65] μ μ' ∧ ctM T Lw μ μ' a (T 0 1) ∧ lf μ' (sD T (sPr T Lw (μ.1 152) (μ.1 112 58) (μ.1 112 60) a) (T 6 a)) ∧
      ((r = 1 ∧ sD T (sPr T Lw (μ.1 152) (μ.1 112 58) (μ.1 112 60) a) (T 6 a) (T 5 a) < INF ∧ wyM μ' (sWy T (sPr T Lw (μ.1 152) (μ.1 112 58) (μ.1 112 60) a) (sD T (sPr T Lw (μ.1 152) (μ.1 112 58) (μ.1 112 60) a) (T 6 a)) (T 6 a) 8 (T 5 a))) ∨
       (r = 0 ∧ ¬ sD T (sPr T Lw (μ.1 152) (μ.1 112 58) (μ.1 112 60) a) (T 6 a) (T 5 a) < INF))) := by
  refine jC0.of' (ls := [.ref 112, .int (nI a), .null, .null, .null]) rfl rfl rfl (fun _ _ => Nat.le_of_ble_eq_true rfl) ?_
  have hv := ht.1.1
  have hvt := ht.2.2.2.2.2
  have hna := ht.2.2.2.2.2.1.2.2.1
  have hnk := ht.2.2.2.2.2.1.2.1
  have hn0 := ht.2.2.2.2.2.1.1
  obtain ⟨p5, p6, -⟩ := ht.2.2.2.2.2.2.2.1 a ha
  obtain ⟨pr, hpre⟩ : ∃ pr, pr = sPr T Lw (μ.1 152) (μ.1 112 58) (μ.1 112 60) a := ⟨_, rfl⟩
  have hpr : prOK T pr := fun k hk => by
    have h3 := ht.2.2.2.2.2.2.1 k hk
    have := sPr_in (Lw := Lw) (S := μ.1 152) (lots := μ.1 112 58) (od := μ.1 112 60) (a := a) ⟨h3.2.2.2.1, h3.2.2.2.2.1⟩
    rw [hpre]
    refine ⟨this.1, ?_⟩
    by_cases z : sDn T Lw (μ.1 152) k
    · exact Or.inr (this.2.2.1 z)
    · exact Or.inl (this.2.2.2 z).1
  rw [← hpre]
  have hp1 : ∀ k, k < T 0 1 → 1 ≤ pr k := fun k hk => (hpr k hk).1
  have hd := sD_is hvt (goal := T 6 a) hp1
  refine b_X12_findsWay_0 hG hP (c_X12_fillsCosts hG hP ht ha hr) ?_
  rintro μ1 ⟨hm1, hc1⟩
  have hP1 := hm1.gNN hP
  have ht1 := txM_off hm1 ⟨by decide, by decide⟩ ht
  have hi1 := ix7 ht1.1.2 (rfl : nI a = nI a)
  have hca : (nI (7 * v + a)).toNatClampNeg = 7 * v + a := nI_clamp (by omega)
  have hcc1 : ∀ k, k < T 0 1 → μ1.1 154 k = eD (pr k) := fun k hk => by rw [hpre]; exact (hc1 k hk).1
  obtain ⟨g5, g6, -⟩ := ht1.2.2.2.1 a ha
  refine b_X12_findsWay_5 hG hP1 (by rw [hi1]; exact vp_in_nI (by omega) (by omega)) (by rw [hi1, hca, g6]; exact c_X12_fillsLeft hG hP1 ht1 hpr hcc1 p6) ?_
  rintro μ2 ⟨hm2, hl2⟩
  generalize sD T pr (T 6 a) = d at hd hl2 ⊢
  have hm12 := hm2.mono (C' := [149, 150, 153, 154, 155, 156]) (F' := [55, 65]) (by decide) (by decide)
  have hm02 := (hm1.mono (C' := [149, 150, 153, 154, 155, 156]) (F' := [55, 65]) (by decide) (by decide)).trans hm12
  have hP2 := hm2.gNN hP1
  have ht2 := txM_off hm2 ⟨by decide, by decide⟩ ht1
  have hi2 := ix7 ht2.1.2 (rfl : nI a = nI a)
  have hc2 : ctM T Lw μ μ2 a (T 0 1) := fun k hk => by rw [hm2.c 154, hm2.c 155]; exact hc1 k hk
  obtain ⟨g5', g6', -⟩ := ht2.2.2.2.1 a ha
  have h55 : (nI (T 5 a)).toNatClampNeg = T 5 a := nI_clamp (by omega)
  rw [hi1, hca, g6]
  have hm3 : mOff [149, 150, 153, 154, 155, 156] [55, 65] μ (wI μ2 112 65 0) := hm02.trans (mOff_wF (by decide))
  refine b_X12_findsWay_25 hG hP2 (by rw [hi2]; exact vp_in_nI (by omega) (by omega)) (by rw [hi2, hca, g5']; exact vp_in_nI (by omega) (by omega)) (fun h => ?_) (fun h => ?_)
  · rw [hi2, hca, g5', h55, hl2 _ (by omega)] at h
    have hfin : d (T 5 a) < INF := by
      have hI := hd.2.1 (T 5 a)
      have : ¬ eD (d (T 5 a)) < 0 := by rw [i32_lt]; rw [i32_le] at h; omega
      have := mt (eD_neg hI).mpr this; omega
    rw [hi2, hca, g5']
    -- the loop over the places of the WAY
    have loop : ∀ (n p : Nat) (Wd : List Nat) (μ3 : jM), p < 8 → d p < INF → rk d p < n → Wd.length + n ≤ 8 → mOff [156] [65] (wI μ2 112 65 0) μ3 → μ3.1 112 65 = nI Wd.length → (∀ (j q : Nat), Wd[j]? = some q → μ3.1 156 j = nI q) → (∀ μ', mOff [156] [65] (wI μ2 112 65 0) μ' → wyM μ' (Wd ++ sWy T pr d (T 6 a) n p) → wyM μ' (sWy T pr d (T 6 a) 8 (T 5 a))) →
        J l mX12_findsWay (jZ0 6 G (pI fun r μ' => mOff [149, 150, 153, 154, 155, 156] [55, 65] μ μ' ∧ ctM T Lw μ μ' a (T 0 1) ∧ lf μ' d ∧ ((r = 1 ∧ d (T 5 a) < INF ∧ wyM μ' (sWy T pr d (T 6 a) 8 (T 5 a))) ∨ (r = 0 ∧ ¬ d (T 5 a) < INF)))) G 0 0 56 [.ref 112, .null, .int (nI (T 6 a)), .int (nI p), .null] [] μ3 := by
      intro n
      induction n with
      | zero => intro p Wd μ3 _ _ h; omega
      | succ n ih =>
        intro p Wd μ3 hp8 hpI hrk hlen hm hlg hW hfin2
        have hP3 := hm.gNN (μ := wI μ2 112 65 0) hP2
        have hm23 : mOff [156] [65] μ2 μ3 := (mOff_wF (by decide)).trans hm
        have hm03 := hm02.trans (hm23.mono (C' := [149, 150, 153, 154, 155, 156]) (F' := [55, 65]) (by decide) (by decide))
        have ht3 := txM_off hm23 ⟨by decide, by decide⟩ ht2
        have hl3 : lf μ3 d := fun p hp => by rw [hm23.c 153]; exact hl2 p hp
        have hc3 : ctM T Lw μ μ3 a (T 0 1) := fun k hk => by rw [hm23.c 154, hm23.c 155]; exact hc2 k hk
        by_cases hg : p = T 6 a
        · refine b_X12_findsWay_56 (ψ1 := fun _ _ => True) hG hP3 (fun _ => ⟨hm03, hc3, hl3, Or.inl ⟨rfl, hfin, hfin2 μ3 hm ?_⟩⟩) (fun h => absurd (by rw [hg]) h) (fun h => absurd (by rw [hg]) h)
          have e : sWy T pr d (T 6 a) (n + 1) p = [] := by unfold sWy; rw [if_pos hg]
          rw [e, List.append_nil]
          exact ⟨hlg, hW⟩
        · have hne : ¬ nI p = nI (T 6 a) := fun z => hg ((nI_eq (by omega) (by omega)).mp z)
          refine b_X12_findsWay_56 hG hP3 (fun h => absurd h hne) (fun _ => c_X12_firstRoad hG hP3 ht3 hpr hd (fun k hk => by rw [hpre]; exact (hc3 k hk).1) hl3 hg hpI) (fun _ => ?_)
          rintro r μ3 ⟨rfl, rfl⟩
          obtain ⟨k, o, e1, hk, ho, h3, h4, ho8, -, -, hrk2⟩ := way_next hvt hd hp1 hg hpI
          rw [e1]
          have hll : (μ3.1 112 65).toNatClampNeg = Wd.length := ix_cl hlg (by omega)
          have hm4 : mOff [156] [65] (wI μ2 112 65 0) (wI (wI μ3 156 Wd.length (nI k)) 112 65 (nI (Wd.length + 1))) := hm.trans ((mOff_wC (C := [156]) (F := [65]) (by decide) (by decide)).trans (mOff_wF (by decide)))
          have hm24 : mOff [156] [65] μ2 (wI (wI μ3 156 Wd.length (nI k)) 112 65 (nI (Wd.length + 1))) := (mOff_wF (by decide)).trans hm4
          refine b_X12_findsWay_66 (ψ0 := fun r μ' => μ' = (wI (wI μ3 156 Wd.length (nI k)) 112 65 (nI (Wd.length + 1))) ∧ r = nI o) hG hP3 (ix_in hlg (by omega) (by decide)) ?_ ?_
          · rw [hll, hlg, nI_inc]
            refine (c_X12_through (p := p) (k := k) hG (hm24.gNN hP2) (txM_off hm24 ⟨by decide, by decide⟩ ht2) hk hp8).mono (pI_mono ?_)
            rintro r μ' ⟨rfl, rfl⟩
            exact ⟨rfl, by rw [ho]⟩
          · rintro r μ4 ⟨rfl, rfl⟩
            refine b_X12_findsWay_96 hG (hm24.gNN hP2) ?_
            refine ih o (Wd ++ [k]) _ ho8 (by omega) (by omega) (by simp; omega) hm4 (by rw [wI_at]; simp) (fun j q hj => ?_) (fun μ' hmm hw => hfin2 μ' hmm ?_)
            · rw [wI_ne (by decide), wI_eq]
              by_cases hjl : j < Wd.length
              · rw [List.getElem?_append_left hjl] at hj
                rw [upd_ne (by omega)]; exact hW j q hj
              · by_cases hje : j = Wd.length
                · subst hje
                  simp at hj
                  rw [upd_at, hj]
                · rw [List.getElem?_eq_none (by simp; omega)] at hj; cases hj
            · have e : sWy T pr d (T 6 a) (n + 1) p = k :: sWy T pr d (T 6 a) n o := by
                conv => lhs; unfold sWy
                rw [if_neg hg, e1, ho]; rfl
              rw [e]
              simpa using hw
    refine loop 8 (T 5 a) [] (wI μ2 112 65 0) (by omega) hfin (by have := rk_7 (d := d) (p := T 5 a) (by omega); omega) (by simp) mOff.refl wI_at (fun j q hj => by simp at hj) (fun μ' _ hw => by simpa using hw)
  · rw [hi2, hca, g5', h55, hl2 _ (by omega)] at h
    refine ⟨hm3, fun k hk => ?_, fun p hp => ?_, Or.inr ⟨rfl, fun z => h ?_⟩⟩
    · rw [wI_ne (by decide), wI_ne (by decide)]; exact hc2 k hk
    · rw [wI_ne (by decide)]; exact hl2 p hp
    · rw [eD_fin z]; exact nI_pos' (by simp only [INF] at z; omega)
end WayM
