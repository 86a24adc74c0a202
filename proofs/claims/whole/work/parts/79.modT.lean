/-! THE REFERENCE ANSWERS: busiest, best, keepers, breaks, first, meets, cutOff, year, sheet -/
theorem km_first {f : Nat → Int32} (h : 0 ≤ f 0) : kmF f allP 1 = (f 0, 0) := by
  refine kmF_yes (n := 0) ⟨rfl, ?_⟩
  have e0 : (0 : Int32).toInt = 0 := rfl
  have e1 : (-1 : Int32).toInt = -1 := rfl
  rw [i32_le, e0] at h
  show (-1 : Int32) < f 0
  rw [i32_lt, e1]; omega
section ModT
variable {l : Launch} {G : jG}
theorem c_X12_busiest (hG : gMM G) {μ : jM} (hP : gNN μ) {v B : Nat} {T : sT} {Lw : Nat → sLaw} {S : sR} (hm : mNow μ v T Lw S) (hg : rgS S B) (x y : Int32) : jC0 l mX12_busiest 9 G [.ref 112, .int x, .int y] μ (pI fun z μ' => z = rBusiest T Lw S x y ∧ mQ μ μ') := by
  refine jC0.of' (ls := [.ref 112, .int x, .int y, .null, .null]) rfl rfl rfl (fun _ _ => Nat.le_of_ble_eq_true rfl) ?_
  have hv := hm.1.2.2.2.2.2
  have h12 := hv.1.2.1
  have hz := mQ.refl hm.2.2.1
  refine b_X12_busiest_0 hG hP (c_X12_isLong hG hP x) ?_
  rintro z μ1 ⟨rfl, ⟨rfl, hx⟩ | ⟨rfl, hx⟩⟩
  · obtain ⟨n, hn, rfl⟩ := hx
    rw [show rBusiest T Lw S (nI n) y = _ from gIf_in hn (by decide)]
    refine b_X12_busiest_4 hG hP (fun h => absurd h (by decide)) (fun _ => c_X12_inN hG hP y (n := 1) rfl (by decide)) (fun _ => ?_)
    rintro z μ2 ⟨rfl, ⟨rfl, hy⟩ | ⟨rfl, hy⟩⟩
    · obtain ⟨w, hw, rfl⟩ := hy
      rw [gIf_in hw (by decide)]
      have w0 : nI w = 0 ↔ w = 0 := nI_eq (b := 0) (by omega) (by decide)
      obtain ⟨n1, n2⟩ := nr_at hm.1
      have r0 : μ2.1 123 (μ2.1 112 18).toNatClampNeg = 0 ↔ T 0 1 = 0 := by rw [n2]; exact nI_eq (b := 0) (by omega) (by decide)
      refine b_X12_busiest_13 hG hP (fun _ => n1) (fun _ _ => c_X12_copies hG hP hm) (fun _ h0 => ?_) (fun _ h0 => ⟨(if_pos (r0.mp h0)).symm, hz⟩) (fun h => absurd h (by decide))
      have hr0 : ¬ T 0 1 = 0 := fun z => h0 (r0.mpr z)
      rw [if_neg hr0]
      rintro μ3 ⟨hq3, hm3, ⟨hr, hlo, hth, hod⟩, hP3, -⟩
      refine b_X12_busiest_37 hG hP3 (q_goes hG hP3 hm3 hr hm.2.2.2.1 hod (rt_ok hm.2.2.2.2) (by omega)) ?_
      rintro μ4 ⟨hq4, hm4, hP4, -, hr4⟩
      rw [hlo, hth] at hr4
      have hr4' : μ4.1 152 = nnS T Lw n S := hr4
      have hf : ∀ k, μ4.1 152 k - μ4.1 151 k = busF T Lw S n k := fun k => by rw [hr4', hm4.2.1]; rfl
      obtain ⟨f, hfe⟩ : ∃ f, f = busF T Lw S n := ⟨_, rfl⟩
      rw [← hfe] at hf ⊢
      have hpos : ∀ k, k < 12 → 0 ≤ f k := fun k hk => by rw [hfe]; exact wear_pos hv (by omega) hk hg
      refine b_X12_busiest_42 hG hP4 ?_
      obtain ⟨m1, m2⟩ := nr_at hm4.1
      have loop : ∀ i, i ≤ T 0 1 → ∀ b, 1 ≤ i → b < i → kmF f allP i = (f b, nI b) → J l mX12_busiest (jZ0 9 G (pI fun z μ' => z = (if w = 0 then (kmF f allP (T 0 1)).2 else (kmF f allP (T 0 1)).1) ∧ mQ μ2 μ')) G 0 0 47 [.ref 112, .null, .int (nI w), .int (nI b), .int (nI i)] [] μ4 := by
        refine up_loop (T 0 1) ?_ (fun i hi ih => ?_)
        · intro b h1 hb hk
          have hle : μ4.1 123 (μ4.1 112 18).toNatClampNeg ≤ nI (T 0 1) := by rw [m2]; exact nI_le (Nat.le_refl _) (by omega)
          refine b_X12_busiest_47 hG hP4 m1 (fun _ _ => vp_in_nI (by omega) (by decide)) (fun _ h => ⟨?_, hq3.trans hq4⟩) (fun _ h => ⟨?_, hq3.trans hq4⟩) (fun h => absurd hle h) (fun h => absurd hle h) (fun h => absurd hle h) (fun h => absurd hle h)
          · rw [nI_clamp (by omega), hf b, if_neg (fun z => h (w0.mpr z)), hk]
          · rw [if_pos (w0.mp h), hk]
        · intro b h1 hb hk
          have hgt : ¬ μ4.1 123 (μ4.1 112 18).toNatClampNeg ≤ nI i := by rw [m2]; exact nI_ge hi (by omega)
          refine b_X12_busiest_47 hG hP4 m1 (fun h => absurd h hgt) (fun h => absurd h hgt) (fun h => absurd h hgt) (fun _ => vp_in_nI (by omega) (by decide)) (fun _ => vp_in_nI (by omega) (by decide)) (fun _ h => ?_) (fun _ h => ?_)
          · rw [nI_clamp (by omega), nI_clamp (by omega), hf, hf] at h
            rw [nI_inc]
            refine ih b (by omega) (by omega) ?_
            rw [kmF_no (fun z => by have := z.2; rw [hk] at this; rw [i32_le] at h; rw [i32_lt] at this; simp only at this; omega)]; exact hk
          · rw [nI_clamp (by omega), nI_clamp (by omega), hf, hf] at h
            rw [nI_inc]
            refine ih i (by omega) (by omega) ?_
            rw [kmF_yes ⟨rfl, by rw [hk]; rw [i32_le] at h; rw [i32_lt]; simp only; omega⟩]
      exact loop 1 (by omega) 0 (by omega) (by omega) (km_first (hpos 0 (by omega)))
    · exact b_X12_busiest_13 (ψ0 := fun _ => True) hG hP (fun h => absurd rfl h) (fun h => absurd rfl h) (fun h => absurd rfl h) (fun h => absurd rfl h) (fun _ => ⟨(gIf_out hy).symm, hz⟩)
  · exact b_X12_busiest_4 (ψ1 := fun _ _ => True) hG hP (fun _ => ⟨(gIf_out hx).symm, hz⟩) (fun h => absurd rfl h) (fun h => absurd rfl h)
theorem c_X12_best (hG : gMM G) {μ : jM} (hP : gNN μ) {v : Nat} {T : sT} {Lw : Nat → sLaw} {S : sR} (hm : mNow μ v T Lw S) (x y : Int32) : jC0 l mX12_best 9 G [.ref 112, .int x, .int y] μ (pI fun z μ' => z = rBest T Lw S x y ∧ mQ μ μ') := by
  refine jC0.of' (ls := [.ref 112, .int x, .int y, .null, .null, .null]) rfl rfl rfl (fun _ _ => Nat.le_of_ble_eq_true rfl) ?_
  have hv := hm.1.2.2.2.2.2
  have hz := mQ.refl hm.2.2.1
  refine b_X12_best_0 hG hP (c_X12_in1 hG hP x (n := 30) rfl (by decide)) ?_
  rintro z μ1 ⟨rfl, ⟨rfl, hx⟩ | ⟨rfl, hx⟩⟩
  · obtain ⟨n, hn, hn0, rfl⟩ := hx
    rw [show rBest T Lw S (nI n) y = _ from gIf_in1 hn (by decide) hn0]
    refine b_X12_best_7 hG hP (fun h => absurd h (by decide)) (fun _ => c_X12_inN hG hP y (n := 1) rfl (by decide)) (fun _ => ?_)
    rintro z μ2 ⟨rfl, ⟨rfl, hy⟩ | ⟨rfl, hy⟩⟩
    · obtain ⟨w, hw, rfl⟩ := hy
      rw [gIf_in hw (by decide)]
      have w0 : nI w = 0 ↔ w = 0 := nI_eq (b := 0) (by omega) (by decide)
      refine b_X12_best_16 hG hP (fun _ => ?_) (fun h => absurd h (by decide))
      obtain ⟨f, hfe⟩ : ∃ f, f = bstF T Lw S n := ⟨_, rfl⟩
      rw [← hfe]
      have loop : ∀ i, i ≤ 10 → ∀ μ3, mQ μ2 μ3 → mNow μ3 v T Lw S → gNN μ3 → J l mX12_best (jZ0 9 G (pI fun z μ' => z = (if w = 0 then (kmF f allP 10).2 else (kmF f allP 10).1) ∧ mQ μ2 μ')) G 0 0 29 [.ref 112, .int (nI n), .int (nI w), .int (kmF f allP i).2, .int (kmF f allP i).1, .int (nI i)] [] μ3 := by
        refine up_loop 10 ?_ (fun i hi ih => ?_)
        · intro μ3 hq3 hm3 hP3
          exact b_X12_best_29 (ψ2 := fun _ => True) hG hP3 (fun _ h => ⟨(if_neg (fun z => h (w0.mpr z))).symm, hq3⟩) (fun _ h => ⟨(if_pos (w0.mp h)).symm, hq3⟩) (fun h => absurd (by decide) h) (fun h => absurd (by decide) h)
        · intro μ3 hq3 hm3 hP3
          have h9 : ¬ (9 : Int32) < nI i := nI_nlt (a := 9) (by omega) (by decide)
          refine b_X12_best_29 hG hP3 (fun h => absurd h h9) (fun h => absurd h h9) (fun _ => c_X12_copies hG hP3 hm3) (fun _ => ?_)
          rintro μ5 ⟨hq5, hm5, ⟨hr, hlo, hth, hod⟩, hP5, -⟩
          have e64 : (wI μ5 152 65 (nI i)).1 152 = upd S 65 (nI i) := by rw [wI_eq, hr]
          have hqw : mQ μ5 (wI μ5 152 65 (nI i)) := ⟨mOff_wC (by decide) (by decide), fun j hj => by rw [wI_off' (by omega)]; exact hm5.2.2.1 j hj⟩
          have u65 : upd S 65 (nI i) 65 = nI i := upd_at
          have hPw : gNN (wI μ5 152 65 (nI i)) := hP5
          have l58 : (wI μ5 152 65 (nI i)).1 112 58 = nI (T 0 7) := by rw [wI_ne (by decide)]; exact hlo
          have l59 : (wI μ5 152 65 (nI i)).1 112 59 = 127 := by rw [wI_ne (by decide)]; exact hth
          have hgo := q_goes (l := l) (μ := wI μ5 152 65 (nI i)) (E := upd S 65 (nI i)) (od := -1) (n := n) hG hPw (hqw.now hm5) e64 (fun j hj => by rw [upd_ne (by omega)]; exact hm.2.2.2.1 j hj) (by rw [wI_ne (by decide)]; exact hod) (rt_ok ⟨i, by omega, u65⟩) (by omega)
          rw [l58, l59] at hgo
          refine b_X12_best_40 hG hP5 hgo ?_
          rintro μ6 ⟨hq6, hm6, hP6, -, hr6⟩
          have hfi : μ6.1 152 66 - μ6.1 151 66 = f i := by rw [hr6, hm6.2.1, hfe]; rfl
          have hq' := ((hq3.trans hq5).trans hqw).trans hq6
          have hnext := ih μ6 hq' hm6 hP6
          rw [← nI_inc] at hnext
          refine b_X12_best_54 hG hP6 (fun h => ?_) (fun h => ?_)
          · rw [hfi] at h ⊢
            rw [kmF_yes ⟨rfl, h⟩] at hnext
            exact hnext
          · rw [hfi] at h
            rw [kmF_no (fun z => h z.2)] at hnext
            exact hnext
      exact loop 0 (by omega) μ2 hz hm hP
    · exact b_X12_best_16 hG hP (fun h => absurd rfl h) (fun _ => ⟨(gIf_out hy).symm, hz⟩)
  · exact b_X12_best_7 (ψ1 := fun _ _ => True) hG hP (fun _ => ⟨(gIf_no1 (by decide) hx).symm, hz⟩) (fun h => absurd rfl h) (fun h => absurd rfl h)
theorem c_X12_year (hG : gMM G) {μ : jM} (hP : gNN μ) {v : Nat} {T : sT} {Lw : Nat → sLaw} {S : sR} (hm : mNow μ v T Lw S) (x y : Int32) : jC0 l mX12_year 9 G [.ref 112, .int x, .int y] μ (pI fun z μ' => z = rYear T Lw S x y ∧ mQ μ μ') := by
  refine jC0.of' (ls := [.ref 112, .int x, .int y, .null, .null]) rfl rfl rfl (fun _ _ => Nat.le_of_ble_eq_true rfl) ?_
  have hv := hm.1.2.2.2.2.2
  have hz := mQ.refl hm.2.2.1
  refine b_X12_year_0 hG hP (c_X12_isLong hG hP x) ?_
  rintro z μ1 ⟨rfl, ⟨rfl, hx⟩ | ⟨rfl, hx⟩⟩
  · obtain ⟨n, hn, rfl⟩ := hx
    rw [show rYear T Lw S (nI n) y = _ from gIf_in hn (by decide)]
    refine b_X12_year_4 hG hP (fun h => absurd h (by decide)) (fun _ => c_X12_in1 hG hP y (n := 20) rfl (by decide)) (fun _ => ?_)
    rintro z μ2 ⟨rfl, ⟨rfl, hy⟩ | ⟨rfl, hy⟩⟩
    · obtain ⟨s, hs, hs0, rfl⟩ := hy
      rw [gIf_in1 hs (by decide) hs0]
      refine b_X12_year_14 hG hP (fun _ => ?_) (fun h => absurd h (by decide))
      have loop : ∀ i, i ≤ s → ∀ μ3, mQ μ2 μ3 → mNow μ3 v T Lw S → gNN μ3 → J l mX12_year (jZ0 9 G (pI fun z μ' => z = yrV T Lw S n s ∧ mQ μ2 μ')) G 0 0 24 [.ref 112, .int (nI n), .int (nI s), .int (yrV T Lw S n i), .int (nI i)] [] μ3 := by
        refine up_loop s ?_ (fun i hi ih => ?_)
        · intro μ3 hq3 hm3 hP3
          have hle : nI s ≤ nI s := nI_le (Nat.le_refl _) (by omega)
          exact b_X12_year_24 (ψ1 := fun _ => True) hG hP3 (fun _ => ⟨rfl, hq3⟩) (fun h => absurd hle h) (fun h => absurd hle h)
        · intro μ3 hq3 hm3 hP3
          refine b_X12_year_24 hG hP3 (fun h => absurd h (nI_ge hi (by omega))) (fun _ => c_X12_copies hG hP3 hm3) (fun _ => ?_)
          rintro μ5 ⟨hq5, hm5, ⟨hr, hlo, hth, hod⟩, hP5, -⟩
          have e152 : (wI μ5 112 58 (nI (T 0 7) + nI i)).1 152 = S := by rw [wI_ne (by decide)]; exact hr
          have hqw : mQ μ5 (wI μ5 112 58 (nI (T 0 7) + nI i)) := ⟨mOff_wF (by decide), fun j hj => by rw [wI_ne (by decide)]; exact hm5.2.2.1 j hj⟩
          have hPw : gNN (wI μ5 112 58 (nI (T 0 7) + nI i)) := hP5
          have l58 : (wI μ5 112 58 (nI (T 0 7) + nI i)).1 112 58 = nI (T 0 7) + nI i := by rw [wI_at]
          have l59 : (wI μ5 112 58 (nI (T 0 7) + nI i)).1 112 59 = 127 := by rw [wI_off' (by decide)]; exact hth
          have hgo := q_goes (l := l) (μ := wI μ5 112 58 (nI (T 0 7) + nI i)) (E := S) (od := -1) (n := n) hG hPw (hqw.now hm5) e152 hm.2.2.2.1 (by rw [wI_off' (by decide)]; exact hod) (rt_ok hm.2.2.2.2) (by omega)
          rw [l58, l59] at hgo
          refine b_X12_year_34 hG hP5 (by rw [hlo]; exact hgo) ?_
          rintro μ6 ⟨hq6, hm6, hP6, -, hr6⟩
          have hfi : μ6.1 152 66 - μ6.1 151 66 = sNn T Lw (nI (T 0 7) + nI i) (-1) 127 n S 66 - S 66 := by rw [hr6, hm6.2.1]
          refine b_X12_year_50 hG hP6 ?_
          rw [nI_inc, hfi]
          exact ih μ6 (((hq3.trans hq5).trans hqw).trans hq6) hm6 hP6
      exact loop 0 (Nat.zero_le _) μ2 hz hm hP
    · exact b_X12_year_14 hG hP (fun h => absurd rfl h) (fun _ => ⟨(gIf_no1 (by decide) hy).symm, hz⟩)
  · exact b_X12_year_4 (ψ1 := fun _ _ => True) hG hP (fun _ => ⟨(gIf_out hx).symm, hz⟩) (fun h => absurd rfl h) (fun h => absurd rfl h)
theorem q_down (hG : gMM G) {μ : jM} (hP : gNN μ) {v k : Nat} {T : sT} {Lw : Nat → sLaw} {S : sR} (hm : mNow μ v T Lw S) (hk : k < T 0 1) : jC0 l mX12_isDown 2 G [.ref 112, .int (nI k)] μ (pI fun z μ' => mQ μ μ' ∧ mNow μ' v T Lw S ∧ gNN μ' ∧ mOff [149, 150] [55] μ μ' ∧ ((z = 1 ∧ sDn T Lw (μ.1 152) k) ∨ (z = 0 ∧ ¬ sDn T Lw (μ.1 152) k))) := by
  refine (c_X12_isDown hG hP hm.1 hk).mono (pI_mono ?_)
  rintro z μ' ⟨h1, rfl⟩
  have hq : mQ μ μ' := ⟨h1.mono (by decide) (by decide), fun i hi => by rw [h1.c 152 (by decide) (by decide)]; exact hm.2.2.1 i hi⟩
  refine ⟨hq, hq.now hm, h1.gNN hP, h1, ?_⟩
  by_cases h : sDn T Lw (μ.1 152) k
  · exact Or.inl ⟨if_pos h, h⟩
  · exact Or.inr ⟨if_neg h, h⟩
theorem c_X12_breaks (hG : gMM G) {μ : jM} (hP : gNN μ) {v : Nat} {T : sT} {Lw : Nat → sLaw} {S : sR} (hm : mNow μ v T Lw S) (x : Int32) : jC0 l mX12_breaks 8 G [.ref 112, .int x] μ (pI fun z μ' => z = rBreaks T Lw S x ∧ mQ μ μ') := by
  refine jC0.of' (ls := [.ref 112, .int x, .null]) rfl rfl rfl (fun _ _ => Nat.le_of_ble_eq_true rfl) ?_
  have hv := hm.1.2.2.2.2.2
  have h12 := hv.1.2.1
  refine b_X12_breaks_0 hG hP (c_X12_isRoad hG hP hm.1 x) ?_
  rintro z μ1 ⟨rfl, ⟨rfl, hx⟩ | ⟨rfl, hx⟩⟩
  · obtain ⟨k, hk, rfl⟩ := hx
    rw [show rBreaks T Lw S (nI k) = _ from gIf_in hk (by omega)]
    refine b_X12_breaks_5 hG hP (fun _ => c_X12_copies hG hP hm) (fun _ => ?_) (fun h => absurd h (by decide))
    rintro μ2 ⟨hq2, hm2, ⟨hr, hlo, hth, hod⟩, hP2, -⟩
    refine b_X12_breaks_14 hG hP2 ?_
    have loop : ∀ i, i ≤ 201 → ∀ μ3, mQ μ1 μ3 → mNow μ3 v T Lw S → gNN μ3 → μ3.1 152 = nnS T Lw i S → μ3.1 112 58 = nI (T 0 7) → μ3.1 112 59 = 127 → μ3.1 112 60 = -1 → (∀ j, j < i → ¬ brkP T Lw S k j = true) → J l mX12_breaks (jZ0 8 G (pI fun z μ' => z = untV (brkP T Lw S k) ∧ mQ μ1 μ')) G 0 0 16 [.ref 112, .int (nI k), .int (nI i)] [] μ3 := by
      refine up_loop 201 ?_ (fun i hi ih => ?_)
      · intro μ3 hq3 hm3 hP3 hr3 h58 h59 h60 hno
        exact b_X12_breaks_16 (ψ1 := fun _ _ => True) hG hP3 (fun _ => ⟨(untV_no hno).symm, hq3⟩) (fun h => absurd (by decide) h) (fun h => absurd (by decide) h)
      · intro μ3 hq3 hm3 hP3 hr3 h58 h59 h60 hno
        have h200 : ¬ (200 : Int32) < nI i := nI_nlt (a := 200) (by omega) (by decide)
        refine b_X12_breaks_16 hG hP3 (fun h => absurd h h200) (fun _ => q_down hG hP3 hm3 hk) (fun _ => ?_)
        rintro z μ4 ⟨hq4, hm4, hP4, ho4, hz⟩
        rw [hr3] at hz
        have hbk : brkP T Lw S k i = true ↔ sDn T Lw (nnS T Lw i S) k := by unfold brkP; exact decide_eq_true_iff
        rcases hz with ⟨rfl, hd⟩ | ⟨rfl, hd⟩
        · exact b_X12_breaks_28 (ψ0 := fun _ => True) hG hP4 (fun h => absurd h (by decide)) (fun h => absurd h (by decide)) (fun _ => ⟨(untV_at (by omega) (hbk.mpr hd) hno).symm, hq3.trans hq4⟩)
        · have hr4 : μ4.1 152 = nnS T Lw i S := by rw [ho4.c 152 (by decide) (by decide)]; exact hr3
          have h58' : μ4.1 112 58 = nI (T 0 7) := by rw [ho4.f 58 (by decide)]; exact h58
          have h59' : μ4.1 112 59 = 127 := by rw [ho4.f 59 (by decide)]; exact h59
          have h60' : μ4.1 112 60 = -1 := by rw [ho4.f 60 (by decide)]; exact h60
          have u65 : nnS T Lw i S 65 = S 65 := sNn_65 hv i
          have hgo := q_night (l := l) (E := nnS T Lw i S) (od := -1) hG hP4 hm4 hr4 (fun j hj => by unfold nnS; rw [sNn_hi hv hj]; exact hm.2.2.2.1 j hj) h60' (rt_ok (by rw [u65]; exact hm.2.2.2.2))
          rw [h58', h59'] at hgo
          refine b_X12_breaks_28 hG hP4 (fun _ => hgo) (fun _ => ?_) (fun h => absurd rfl h)
          rintro μ5 ⟨hq5, hm5, hP5, ho5, hr5⟩
          refine b_X12_breaks_37 hG hP5 ?_
          rw [nI_inc]
          refine ih μ5 ((hq3.trans hq4).trans hq5) hm5 hP5 hr5 (by rw [ho5.f 58 (by decide)]; exact h58') (by rw [ho5.f 59 (by decide)]; exact h59') (by rw [ho5.f 60 (by decide)]; exact h60') (fun j hj => ?_)
          by_cases e : j = i
          · rw [e]; exact fun z => hd (hbk.mp z)
          · exact hno j (by omega)
    exact loop 0 (by omega) μ2 hq2 hm2 hP2 hr hlo hth hod (fun j hj => by omega)
  · exact b_X12_breaks_5 (ψ0 := fun _ => True) hG hP (fun h => absurd rfl h) (fun h => absurd rfl h) (fun _ => ⟨(gIf_out hx).symm, mQ.refl hm.2.2.1⟩)
theorem c_X12_cutOff (hG : gMM G) {μ : jM} (hP : gNN μ) {v : Nat} {T : sT} {Lw : Nat → sLaw} {S : sR} (hm : mNow μ v T Lw S) (x : Int32) : jC0 l mX12_cutOff 8 G [.ref 112, .int x] μ (pI fun z μ' => z = rCutOff T Lw S x ∧ mQ μ μ') := by
  refine jC0.of' (ls := [.ref 112, .int x, .null]) rfl rfl rfl (fun _ _ => Nat.le_of_ble_eq_true rfl) ?_
  have hv := hm.1.2.2.2.2.2
  have h7 := hv.1.2.2.1
  refine b_X12_cutOff_0 hG hP (c_X12_isGhost hG hP hm.1 x) ?_
  rintro z μ1 ⟨rfl, ⟨rfl, hx⟩ | ⟨rfl, hx⟩⟩
  · obtain ⟨k, hk, rfl⟩ := hx
    rw [show rCutOff T Lw S (nI k) = _ from gIf_in hk (by omega)]
    refine b_X12_cutOff_5 hG hP (fun _ => c_X12_copies hG hP hm) (fun _ => ?_) (fun h => absurd h (by decide))
    rintro μ2 ⟨hq2, hm2, ⟨hr, hlo, hth, hod⟩, hP2, -⟩
    refine b_X12_cutOff_14 hG hP2 ?_
    have loop : ∀ i, i ≤ 201 → ∀ μ3, mQ μ1 μ3 → mNow μ3 v T Lw S → gNN μ3 → μ3.1 152 = nnS T Lw i S → μ3.1 112 58 = nI (T 0 7) → μ3.1 112 59 = 127 → μ3.1 112 60 = -1 → (∀ j, j < i → ¬ cutP T Lw S k j = true) → J l mX12_cutOff (jZ0 8 G (pI fun z μ' => z = untV (cutP T Lw S k) ∧ mQ μ1 μ')) G 0 0 16 [.ref 112, .int (nI k), .int (nI i)] [] μ3 := by
      refine up_loop 201 ?_ (fun i hi ih => ?_)
      · intro μ3 hq3 hm3 hP3 hr3 h58 h59 h60 hno
        exact b_X12_cutOff_16 (ψ1 := fun _ _ => True) hG hP3 (fun _ => ⟨(untV_no hno).symm, hq3⟩) (fun h => absurd (by decide) h) (fun h => absurd (by decide) h)
      · intro μ3 hq3 hm3 hP3 hr3 h58 h59 h60 hno
        have h200 : ¬ (200 : Int32) < nI i := nI_nlt (a := 200) (by omega) (by decide)
        have u65 : nnS T Lw i S 65 = S 65 := sNn_65 hv i
        refine b_X12_cutOff_16 hG hP3 (fun h => absurd h h200) (fun _ => q_find hG hP3 hm3 hr3 h58 h60 (rt_ok (by rw [u65]; exact hm.2.2.2.2)) hk) (fun _ => ?_)
        rintro z μ4 ⟨hq4, hm4, hP4, ho4, -, -, hz⟩
        have hbk : cutP T Lw S k i = true ↔ ¬ sDs T Lw (nI (T 0 7)) (-1) (nnS T Lw i S) k (T 5 k) < INF := by unfold cutP; exact decide_eq_true_iff
        rcases hz with ⟨rfl, hd, -⟩ | ⟨rfl, hd⟩
        · have hr4 : μ4.1 152 = nnS T Lw i S := by rw [ho4.c 152 (by decide) (by decide)]; exact hr3
          have h58' : μ4.1 112 58 = nI (T 0 7) := by rw [ho4.f 58 (by decide)]; exact h58
          have h59' : μ4.1 112 59 = 127 := by rw [ho4.f 59 (by decide)]; exact h59
          have h60' : μ4.1 112 60 = -1 := by rw [ho4.f 60 (by decide)]; exact h60
          have hgo := q_night (l := l) (E := nnS T Lw i S) (od := -1) hG hP4 hm4 hr4 (fun j hj => by unfold nnS; rw [sNn_hi hv hj]; exact hm.2.2.2.1 j hj) h60' (rt_ok (by rw [u65]; exact hm.2.2.2.2))
          rw [h58', h59'] at hgo
          refine b_X12_cutOff_28 hG hP4 (fun _ => hgo) (fun _ => ?_) (fun h => absurd h (by decide))
          rintro μ5 ⟨hq5, hm5, hP5, ho5, hr5⟩
          refine b_X12_cutOff_37 hG hP5 ?_
          rw [nI_inc]
          refine ih μ5 ((hq3.trans hq4).trans hq5) hm5 hP5 hr5 (by rw [ho5.f 58 (by decide)]; exact h58') (by rw [ho5.f 59 (by decide)]; exact h59') (by rw [ho5.f 60 (by decide)]; exact h60') (fun j hj => ?_)
          by_cases e : j = i
          · rw [e]; exact fun z => hbk.mp z hd
          · exact hno j (by omega)
        · exact b_X12_cutOff_28 (ψ0 := fun _ => True) hG hP4 (fun h => absurd rfl h) (fun h => absurd rfl h) (fun _ => ⟨(untV_at (by omega) (hbk.mpr hd) hno).symm, hq3.trans hq4⟩)
    exact loop 0 (by omega) μ2 hq2 hm2 hP2 hr hlo hth hod (fun j hj => by omega)
  · exact b_X12_cutOff_5 (ψ0 := fun _ => True) hG hP (fun h => absurd rfl h) (fun h => absurd rfl h) (fun _ => ⟨(gIf_out hx).symm, mQ.refl hm.2.2.1⟩)
end ModT
