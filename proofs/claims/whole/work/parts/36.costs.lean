theorem b3 (F : Nat → Int32) (x5 x7 x8 : Int32) (hF : ∀ j, j < 9 → F j = 0) (j : Nat) (hj : j < 9) : upd (upd (upd F 5 x5) 7 x7) 8 x8 j = v9 0 0 0 0 0 x5 0 x7 x8 j := by
  have h0 := hF 0 (by decide)
  have h1 := hF 1 (by decide)
  have h2 := hF 2 (by decide)
  have h3 := hF 3 (by decide)
  have h4 := hF 4 (by decide)
  have h6 := hF 6 (by decide)
  have h9 : j = 0 ∨ j = 1 ∨ j = 2 ∨ j = 3 ∨ j = 4 ∨ j = 5 ∨ j = 6 ∨ j = 7 ∨ j = 8 := by omega
  rcases h9 with rfl | rfl | rfl | rfl | rfl | rfl | rfl | rfl | rfl <;> simp [upd, v9, *]
section CostsM
variable {l : Launch} {G : jG}
theorem plainF {vr : Nat → Int32} {Lw : Nat → sLaw} (hL : Lw 1 = dLaw 1) : lawV vr (Lw 1) 99 = 5 := by
  rw [hL]; have : lE vr (dLaw 1) = some 5 := rfl
  rw [lawV, this]; decide
theorem plainB {vr : Nat → Int32} {Lw : Nat → sLaw} (hL : Lw 2 = dLaw 2) : lawV vr (Lw 2) 999 = 99 := by
  rw [hL]; have : lE vr (dLaw 2) = some 99 := rfl
  rw [lawV, this]; decide
theorem c_X12_costOf (hG : gMM G) {μ : jM} (hP : gNN μ) {v a k : Nat} {T : sT} {Lw : Nat → sLaw} (ht : txM μ v T Lw) (ha : a < T 0 2) (hk : k < T 0 1) (hr : rtOK (μ.1 152) (μ.1 112 60)) : jC0 l mX12_costOf 4 G [.ref 112, .int (nI a), .int (nI k)] μ (pI fun r μ' => mOff [149, 150] [55] μ μ' ∧ r = sCost T Lw (μ.1 152) (μ.1 112 58) (μ.1 112 60) a k) := by
  refine jC0.of' (ls := [.ref 112, .int (nI a), .int (nI k), .null]) rfl rfl rfl (fun _ _ => Nat.le_of_ble_eq_true rfl) ?_
  have hv := ht.1.1
  have hnk := ht.2.2.2.2.2.1.2.1
  have hw := ht.2.2.2.2.2.2.2.2 1
  have hik := ix12 ht.1.2 (rfl : nI k = nI k)
  have hck : (nI (12 * v + k)).toNatClampNeg = 12 * v + k := nI_clamp (by omega)
  obtain ⟨-, -, g3, g4⟩ := ht.2.2.1 k hk
  have h41 := (ht.2.2.2.2.2.2.1 k hk).2.2.2.2.2
  -- from the FIELD on, with what has come together so far
  have field : ∀ (x : Int32) (μ1 : jM), mOff [149, 150] [55] μ μ1 → x = nI (T 3 k) + (if sGt (μ.1 152) k then sOwes T Lw (μ.1 152) (μ.1 112 58) (μ.1 112 60) a k else 0) → ∀ r μ2, μ2 = μ1 ∧ r = nI (T 4 k) → J l mX12_costOf (jZ0 4 G (pI fun r μ' => mOff [149, 150] [55] μ μ' ∧ r = sCost T Lw (μ.1 152) (μ.1 112 58) (μ.1 112 60) a k)) G 0 0 37 [.ref 112, .int (nI a), .int (nI k), .int x] [.int r] μ2 := by
    rintro x μ1 hm1 rfl r μ1 ⟨rfl, rfl⟩
    have hP1 := hm1.gNN hP
    have ht1 := txM_off hm1 ⟨by decide, by decide⟩ ht
    refine b_X12_costOf_37 hG hP1 (fun h => ⟨hm1, ?_⟩) (fun h => c_X12_looks hG hP1 ht1 ha hk) (fun h => ?_)
    · have h0 : T 4 k = 0 := (nI_eq (b := 0) (by omega) (by decide)).mp h
      rw [sCost, h0, if_neg (show ¬ (0 = 1) by decide)]; exact (Int32.add_zero _).symm
    · have h1 : T 4 k = 1 := by
        rcases Nat.le_one_iff_eq_zero_or_eq_one.mp h41 with z | z
        · rw [z] at h; exact absurd rfl h
        · exact z
      rintro μ2 ⟨hm2, hv2⟩
      have hP2 := hm2.gNN hP1
      have ht2 := txM_off hm2 ⟨by decide, by decide⟩ ht1
      rw [hm1.c 152, hm1.f 58, hm1.f 60] at hv2
      have hlv : lawV (μ2.1 149) (Lw 1) 99 = lawV (vrA T (μ.1 152) (μ.1 112 58) (μ.1 112 60) a k) (Lw 1) 99 := lawV_congr hv2 hw
      refine b_X12_costOf_46 hG hP2 (c_X12_asks hG hP2 ht2.1.1 ht2.1.2 (q := 1) (by decide) rfl (by decide) (L := Lw 1) ?_) ?_
      · rcases ht2.2.2.2.2.1 1 (by decide) with ⟨h1, h2⟩ | h
        · exact Or.inl ⟨h1, plainF h2⟩
        · exact Or.inr h
      · rintro r μ3 ⟨rfl, hm3⟩
        refine b_X12_costOf_55 hG (hm3.gNN hP2) ⟨(hm1.trans (hm2.mono (by decide) (by decide))).trans (hm3.mono (by decide) (by decide)), ?_⟩
        rw [hlv, sCost, h1, if_pos rfl]; rfl
  refine b_X12_costOf_0 hG hP (by rw [hik]; exact vp_in_nI (by omega) (by omega)) (c_X12_hasGate hG hP k) ?_
  rintro r μ ⟨rfl, hr0⟩
  rw [hik, hck, g3]
  refine b_X12_costOf_20 hG hP (fun h => c_X12_overField hG hP ht hk) (fun h => ?_) (fun h => c_X12_owesOn hG hP ht ha hk hr) (fun h => ?_)
  · have hg : ¬ sGt (μ.1 152) k := by
      rcases hr0 with ⟨z, -⟩ | ⟨-, z⟩
      · rw [z] at h; exact absurd h (by decide)
      · exact z
    exact field _ μ mOff.refl (by rw [if_neg hg]; exact (Int32.add_zero _).symm)
  · have hg : sGt (μ.1 152) k := by
      rcases hr0 with ⟨-, z⟩ | ⟨z, -⟩
      · exact z
      · exact absurd z h
    rintro r μ1 ⟨hm1, rfl⟩
    have ht1 := txM_off hm1 ⟨by decide, by decide⟩ ht
    refine b_X12_costOf_30 hG (hm1.gNN hP) (c_X12_overField hG (hm1.gNN hP) ht1 hk) ?_
    exact field _ μ1 hm1 (by rw [if_pos hg])
theorem c_X12_isDown (hG : gMM G) {μ : jM} (hP : gNN μ) {v k : Nat} {T : sT} {Lw : Nat → sLaw} (ht : txM μ v T Lw) (hk : k < T 0 1) : jC0 l mX12_isDown 2 G [.ref 112, .int (nI k)] μ (pI fun r μ' => mOff [149, 150] [55] μ μ' ∧ r = if sDn T Lw (μ.1 152) k then 1 else 0) := by
  refine jC0.of' (ls := [.ref 112, .int (nI k), .null]) rfl rfl rfl (fun _ _ => Nat.le_of_ble_eq_true rfl) ?_
  have hv := ht.1.1
  have hnk := ht.2.2.2.2.2.1.2.1
  have hw := ht.2.2.2.2.2.2.2.2 2
  have hck : (nI (12 * v + k)).toNatClampNeg = 12 * v + k := nI_clamp (by omega)
  have hkk : (nI k).toNatClampNeg = k := nI_clamp (by omega)
  obtain ⟨-, -, g3, g4⟩ := ht.2.2.1 k hk
  refine b_X12_isDown_0 hG hP ?_
  have key : ∀ i, i ≤ 9 → ∀ F : Nat → Int32, (∀ j, j < i → F j = 0) → J l mX12_isDown (jZ0 2 G (pI fun r μ' => mOff [149, 150] [55] μ μ' ∧ r = if sDn T Lw (μ.1 152) k then 1 else 0)) G 0 0 2 [.ref 112, .int (nI k), .int (nI i)] [] (sI μ 149 F) := by
    refine up_loop 9 ?_ (fun i hi ih => ?_)
    · intro F hF
      have h18 : (sI μ 149 F).1 112 18 = nI v := by rw [sI_ne (by decide)]; exact ht.1.2
      have hik := ix12 h18 (rfl : nI k = nI k)
      refine b_X12_isDown_2 (ψ0 := fun r μ' => mOff [149, 150] [55] μ μ' ∧ r = sBears T Lw (μ.1 152) k) (μ := sI μ 149 F) hG hP (fun _ => by rw [hik]; exact vp_in_nI (by omega) (by omega)) (fun _ => vp_in_nI (by omega) (by omega)) (fun _ => ?_) (fun _ => ?_) (fun h => absurd (by decide) h) (fun h => absurd (by decide) h)
      · rw [hik, hck, sI_ne (show (126 : Nat) ≠ 149 by decide), sI_ne (show (152 : Nat) ≠ 149 by decide), g3, wI_sI, wI_sI, wI_sI]
        have hm : mOff [149, 150] [55] μ (sI μ 149 (upd (upd (upd F 5 (nI (T 3 k))) 7 (nI k)) 8 (μ.1 152 67))) := mOff_sI (by decide) (by decide)
        have hP1 := hm.gNN hP
        have ht1 := txM_off hm ⟨by decide, by decide⟩ ht
        have hvr : ∀ j, j < 9 → (sI μ 149 (upd (upd (upd F 5 (nI (T 3 k))) 7 (nI k)) 8 (μ.1 152 67))).1 149 j = vrB T (μ.1 152) k j := by
          intro j hj
          rw [sI_eq]
          exact b3 F _ _ _ hF j hj
        have hlv := lawV_congr (most := 999) hvr hw
        refine (c_X12_asks (plain := 99) (most := 999) hG hP1 ht1.1.1 ht1.1.2 (q := 2) (by decide) rfl (by decide) (L := Lw 2) ?_).mono (pI_mono ?_)
        · rcases ht1.2.2.2.2.1 2 (by decide) with ⟨h1, h2⟩ | h
          · exact Or.inl ⟨h1, plainB h2⟩
          · exact Or.inr h
        · rintro r μ2 ⟨rfl, hm2⟩
          exact ⟨hm.trans (hm2.mono (by decide) (by decide)), hlv⟩
      · rintro r μ2 ⟨hm2, rfl⟩
        rw [hkk, sI_ne (show (152 : Nat) ≠ 149 by decide)]
        refine b_X12_isDown_79 hG (hm2.gNN hP) (fun h => ⟨hm2, ?_⟩) (fun h => ⟨hm2, ?_⟩)
        · rw [if_neg]; intro z; rw [i32_lt] at h; rw [sDn, i32_le] at z; omega
        · rw [if_pos]; rw [sDn, i32_le]; rw [i32_lt] at h; omega
    · intro F hF
      have hii : (nI i).toNatClampNeg = i := nI_clamp (by omega)
      refine b_X12_isDown_2 (ψ0 := fun _ _ => True) (μ := sI μ 149 F) hG hP (fun h => absurd h (nI_ge (b := 9) hi (by decide))) (fun h => absurd h (nI_ge (b := 9) hi (by decide))) (fun h => absurd h (nI_ge (b := 9) hi (by decide))) (fun h => absurd h (nI_ge (b := 9) hi (by decide))) (fun _ => vp_in_nI hi (by decide)) (fun _ => ?_)
      rw [nI_inc, hii, wI_sI]
      refine ih (upd F i 0) (fun j hj => ?_)
      by_cases hji : j = i
      · rw [hji, upd_at]
      · rw [upd_ne hji]; exact hF j (by omega)
  have := key 0 (by omega) (μ.1 149) (fun j hj => by omega)
  rw [sI_self] at this
  exact this
end CostsM
