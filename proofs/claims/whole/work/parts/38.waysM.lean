/-! THE REFERENCE: costs of all ROADS for a GHOST; what is left; the WAY -/
/-- what is left, as the reference writes it: below 0 where there is no way -/
def eD (n : Nat) : Int32 := if n < INF then nI n else -1
/-- the price of a ROAD for a GHOST: INF if it is BROKEN -/
def sPr (T : sT) (Lw : Nat → sLaw) (S : sR) (lots od : Int32) (a k : Nat) : Nat := if sDn T Lw S k then INF else (sCost T Lw S lots od a k).toNatClampNeg
def sOw (T : sT) (Lw : Nat → sLaw) (S : sR) (lots od : Int32) (a k : Nat) : Int32 := if sGt S k then sOwes T Lw S lots od a k else 0
theorem sHeld_in {most : Int32} (hm : 0 ≤ most.toInt) (o : Option Int32) : 0 ≤ (sHeld most o).toInt ∧ (sHeld most o).toInt ≤ most.toInt := by
  have e0 : (0 : Int32).toInt = 0 := rfl
  cases o with
  | none => simp only [sHeld, e0]; omega
  | some w =>
    simp only [sHeld]
    by_cases h1 : w < 0
    · rw [if_pos h1, e0]; omega
    · rw [if_neg h1]
      rw [i32_lt, e0] at h1
      by_cases h2 : most < w
      · rw [if_pos h2]; omega
      · rw [if_neg h2]; rw [i32_lt] at h2; omega
theorem nI_add_toInt {x y : Int32} {a b : Nat} (hx : x.toInt = a) (hy : y.toInt = b) (h : a + b < 2 ^ 31) : (x + y).toInt = (a + b : Nat) := by
  have h1 : x = nI a := i32_ext (by rw [hx, nI_toInt (by omega)])
  have h2 : y = nI b := i32_ext (by rw [hy, nI_toInt (by omega)])
  rw [h1, h2, nI_add, nI_toInt h]
theorem of_in {x : Int32} {n : Nat} (h0 : 0 ≤ x.toInt) (h1 : x.toInt ≤ n) : ∃ m : Nat, m ≤ n ∧ x = nI m ∧ x.toInt = m := by
  obtain ⟨m, hm⟩ := Int.eq_ofNat_of_zero_le h0
  have hlt : m < 2 ^ 31 := by have := Int32.toInt_lt x; omega
  refine ⟨m, by omega, i32_ext ?_, hm⟩
  rw [nI_toInt hlt]; exact hm
theorem sOwes_in {T : sT} {Lw : Nat → sLaw} {S : sR} {lots od : Int32} {a k : Nat} : ∃ m : Nat, m ≤ 99 ∧ sOwes T Lw S lots od a k = nI m ∧ (sOwes T Lw S lots od a k).toInt = m := by
  have := sHeld_in (most := 99) (by decide) (lE (vrA T S lots od a k) (Lw 0))
  exact of_in this.1 this.2
theorem sFears_in {T : sT} {Lw : Nat → sLaw} {S : sR} {lots od : Int32} {a k : Nat} : ∃ m : Nat, m ≤ 99 ∧ sFears T Lw S lots od a k = nI m ∧ (sFears T Lw S lots od a k).toInt = m := by
  have := sHeld_in (most := 99) (by decide) (lE (vrA T S lots od a k) (Lw 1))
  exact of_in this.1 this.2
theorem sCost_in {T : sT} {Lw : Nat → sLaw} {S : sR} {lots od : Int32} {a k : Nat} (h3 : 1 ≤ T 3 k ∧ T 3 k ≤ 9) : ∃ m : Nat, 1 ≤ m ∧ m ≤ 207 ∧ sCost T Lw S lots od a k = nI m := by
  obtain ⟨o, ho, eo, -⟩ := sOwes_in (T := T) (Lw := Lw) (S := S) (lots := lots) (od := od) (a := a) (k := k)
  obtain ⟨f, hf, ef, -⟩ := sFears_in (T := T) (Lw := Lw) (S := S) (lots := lots) (od := od) (a := a) (k := k)
  have z0 : (0 : Int32) = nI 0 := rfl
  unfold sCost
  rw [eo, ef]
  by_cases h1 : sGt S k
  · rw [if_pos h1]
    by_cases h2 : T 4 k = 1
    · rw [if_pos h2]; exact ⟨T 3 k + o + f, by omega, by omega, by rw [nI_add, nI_add]⟩
    · rw [if_neg h2]; exact ⟨T 3 k + o + 0, by omega, by omega, by rw [z0, nI_add, nI_add]⟩
  · rw [if_neg h1]
    by_cases h2 : T 4 k = 1
    · rw [if_pos h2]; exact ⟨T 3 k + 0 + f, by omega, by omega, by rw [z0, nI_add, nI_add]⟩
    · rw [if_neg h2]; exact ⟨T 3 k + 0 + 0, by omega, by omega, by rw [z0, nI_add, nI_add]⟩
theorem sPr_in {T : sT} {Lw : Nat → sLaw} {S : sR} {lots od : Int32} {a k : Nat} (h3 : 1 ≤ T 3 k ∧ T 3 k ≤ 9) : 1 ≤ sPr T Lw S lots od a k ∧ sPr T Lw S lots od a k ≤ INF ∧ (sDn T Lw S k → sPr T Lw S lots od a k = INF) ∧ (¬ sDn T Lw S k → sPr T Lw S lots od a k ≤ 207 ∧ sCost T Lw S lots od a k = nI (sPr T Lw S lots od a k)) := by
  unfold sPr
  by_cases h : sDn T Lw S k
  · rw [if_pos h]; exact ⟨by decide, Nat.le_refl _, fun _ => rfl, fun z => absurd h z⟩
  · obtain ⟨m, h1, h2, h4⟩ := sCost_in (Lw := Lw) (S := S) (lots := lots) (od := od) (a := a) h3
    rw [if_neg h, h4, nI_clamp (by omega)]
    exact ⟨h1, by simp [INF]; omega, fun z => absurd z h, fun _ => ⟨h2, rfl⟩⟩
section WaysM
variable {l : Launch} {G : jG}
def ctM (T : sT) (Lw : Nat → sLaw) (μ μ' : jM) (a n : Nat) : Prop := ∀ k, k < n → μ'.1 154 k = eD (sPr T Lw (μ.1 152) (μ.1 112 58) (μ.1 112 60) a k) ∧ μ'.1 155 k = sOw T Lw (μ.1 152) (μ.1 112 58) (μ.1 112 60) a k
theorem eD_neg {n : Nat} (h : n ≤ INF) : eD n < 0 ↔ n = INF := by
  unfold eD
  by_cases h1 : n < INF
  · rw [if_pos h1]
    constructor
    · intro z; exact absurd z (nI_pos (by simp [INF] at h1; omega))
    · intro z; omega
  · rw [if_neg h1]
    exact ⟨fun _ => by omega, fun _ => by decide⟩
theorem c_X12_fillsCosts (hG : gMM G) {μ : jM} (hP : gNN μ) {v a : Nat} {T : sT} {Lw : Nat → sLaw} (ht : txM μ v T Lw) (ha : a < T 0 2) (hr : rtOK (μ.1 152) (μ.1 112 60)) : jC0 l mX12_fillsCosts 5 G [.ref 112, .int (nI a)] μ (pV fun μ' => mOff [149, 150, 154, 155] [55] μ μ' ∧ ctM T Lw μ μ' a (T 0 1)) := by
  refine jC0.of' (ls := [.ref 112, .int (nI a), .null]) rfl rfl rfl (fun _ _ => Nat.le_of_ble_eq_true rfl) ?_
  have hv := ht.1.1
  have hnk := ht.2.2.2.2.2.1.2.1
  refine b_X12_fillsCosts_0 hG hP ?_
  have key : ∀ i, i ≤ T 0 1 → ∀ μ1, mOff [149, 150, 154, 155] [55] μ μ1 → ctM T Lw μ μ1 a i → J l mX12_fillsCosts (jZ0 5 G (pV fun μ' => mOff [149, 150, 154, 155] [55] μ μ' ∧ ctM T Lw μ μ' a (T 0 1))) G 0 0 2 [.ref 112, .int (nI a), .int (nI i)] [] μ1 := by
    refine up_loop (T 0 1) ?_ (fun i hi ih => ?_)
    · intro μ1 hm1 hc1
      have ht1 := txM_off hm1 ⟨by decide, by decide⟩ ht
      have h18 := ht1.1.2
      have hcl : (μ1.1 112 18).toNatClampNeg = v := ix_cl h18 (by omega)
      have hle : μ1.1 123 (μ1.1 112 18).toNatClampNeg ≤ nI (T 0 1) := by rw [hcl, ht1.2.1.2.1]; exact nI_le (Nat.le_refl _) (by omega)
      exact b_X12_fillsCosts_2 (ψ1 := fun _ _ => True) hG (hm1.gNN hP) (ix_in h18 hv (by decide)) (fun _ => ⟨hm1, hc1⟩) (fun h => absurd hle h) (fun h => absurd hle h)
    · intro μ1 hm1 hc1
      have hP1 := hm1.gNN hP
      have ht1 := txM_off hm1 ⟨by decide, by decide⟩ ht
      have h18 := ht1.1.2
      have hcl : (μ1.1 112 18).toNatClampNeg = v := ix_cl h18 (by omega)
      have hgt : ¬ μ1.1 123 (μ1.1 112 18).toNatClampNeg ≤ nI i := by rw [hcl, ht1.2.1.2.1]; exact nI_ge hi (by omega)
      have hii : (nI i).toNatClampNeg = i := nI_clamp (by omega)
      have hiv : vp_in (nI i) 12 := vp_in_nI (by omega) (by decide)
      have h3 := ht.2.2.2.2.2.2.1 i hi
      have hpr := sPr_in (Lw := Lw) (S := μ.1 152) (lots := μ.1 112 58) (od := μ.1 112 60) (a := a) ⟨h3.2.2.2.1, h3.2.2.2.2.1⟩
      -- from the GATE on
      have gate : ∀ μ2, mOff [149, 150, 154, 155] [55] μ μ2 → ctM T Lw μ μ2 a i → μ2.1 154 i = eD (sPr T Lw (μ.1 152) (μ.1 112 58) (μ.1 112 60) a i) → ∀ r μ3, μ3 = μ2 ∧ ((r = 1 ∧ sGt (μ2.1 152) i) ∨ (r = 0 ∧ ¬ sGt (μ2.1 152) i)) → J l mX12_fillsCosts (jZ0 5 G (pV fun μ' => mOff [149, 150, 154, 155] [55] μ μ' ∧ ctM T Lw μ μ' a (T 0 1))) G 0 0 49 [.ref 112, .int (nI a), .int (nI i)] [.int r, .int (nI i), .ref 155] μ3 := by
        rintro μ2 hm2 hc2 hci r μ2 ⟨rfl, hg⟩
        rw [hm2.c 152] at hg
        have hP2 := hm2.gNN hP
        have ht2 := txM_off hm2 ⟨by decide, by decide⟩ ht
        have fin : ∀ μ4 x, mOff [149, 150] [55] μ2 μ4 → x = sOw T Lw (μ.1 152) (μ.1 112 58) (μ.1 112 60) a i → J l mX12_fillsCosts (jZ0 5 G (pV fun μ' => mOff [149, 150, 154, 155] [55] μ μ' ∧ ctM T Lw μ μ' a (T 0 1))) G 0 0 2 [.ref 112, .int (nI a), .int (nI i + 1)] [] (wI μ4 155 (nI i).toNatClampNeg x) := by
          rintro μ4 x hm4 rfl
          have hm24 := hm2.trans (hm4.mono (by decide) (by decide))
          rw [hii, nI_inc]
          refine ih _ (hm24.trans (mOff_wC (by decide) (by decide))) (fun k hk => ?_)
          rw [wI_ne (by decide), hm4.c 154, wI_eq]
          by_cases hki : k = i
          · subst hki; rw [upd_at]; exact ⟨hci, rfl⟩
          · rw [upd_ne hki, hm4.c 155]; exact hc2 k (by omega)
        refine b_X12_fillsCosts_49 hG hP2 (fun _ => hiv) (fun h => ?_) (fun h => c_X12_owesOn hG hP2 ht2 ha hi (by rw [hm2.c 152, hm2.f 60]; exact hr)) (fun h => ?_)
        · have hng : ¬ sGt (μ.1 152) i := by
            rcases hg with ⟨z, -⟩ | ⟨-, z⟩
            · rw [z] at h; exact absurd h (by decide)
            · exact z
          exact fin μ2 0 mOff.refl (by rw [sOw, if_neg hng])
        · have hgg : sGt (μ.1 152) i := by
            rcases hg with ⟨-, z⟩ | ⟨z, -⟩
            · exact z
            · exact absurd z h
          rintro r μ4 ⟨hm4, rfl⟩
          refine b_X12_fillsCosts_58 hG (hm4.gNN hP2) hiv ?_
          exact fin μ4 _ hm4 (by rw [sOw, if_pos hgg, hm2.c 152, hm2.f 58, hm2.f 60])
      refine b_X12_fillsCosts_2 hG hP1 (ix_in h18 hv (by decide)) (fun h => absurd h hgt) (fun _ => c_X12_isDown hG hP1 ht1 hi) (fun _ => ?_)
      rintro r μ2 ⟨hm2, rfl⟩
      have hm02 := hm1.trans (hm2.mono (C' := [149, 150, 154, 155]) (F' := [55]) (by decide) (by decide))
      have hP2 := hm2.gNN hP1
      have ht2 := txM_off hm02 ⟨by decide, by decide⟩ ht
      have hc2 : ctM T Lw μ μ2 a i := fun k hk => by rw [hm2.c 154, hm2.c 155]; exact hc1 k hk
      rw [hm1.c 152]
      refine b_X12_fillsCosts_25 hG hP2 (fun h => c_X12_costOf hG hP2 ht2 ha hi (by rw [hm02.c 152, hm02.f 60]; exact hr)) (fun h => ?_) (fun _ => hiv) (fun h => c_X12_hasGate hG (μ := wI μ2 154 (nI i).toNatClampNeg (-1)) hP2 i) (fun h => ?_)
      · have hnd : ¬ sDn T Lw (μ.1 152) i := fun z => by rw [if_pos z] at h; exact absurd h (by decide)
        rintro r μ3 ⟨hm3, rfl⟩
        have hm03 := hm02.trans (hm3.mono (C' := [149, 150, 154, 155]) (F' := [55]) (by decide) (by decide))
        rw [hm02.c 152, hm02.f 58, hm02.f 60]
        have hm04 : mOff [149, 150, 154, 155] [55] μ (wI μ3 154 i (sCost T Lw (μ.1 152) (μ.1 112 58) (μ.1 112 60) a i)) := hm03.trans (mOff_wC (by decide) (by decide))
        refine b_X12_fillsCosts_38 hG (hm3.gNN hP2) hiv ?_ (gate (wI μ3 154 i (sCost T Lw (μ.1 152) (μ.1 112 58) (μ.1 112 60) a i)) hm04 (fun k hk => ?_) ?_)
        · rw [hii]; exact c_X12_hasGate hG (hm04.gNN hP) i
        · rw [wI_ne (show (155 : Nat) ≠ 154 by decide), wI_off' (by omega), hm3.c 154, hm3.c 155]; exact hc2 k hk
        · rw [wI_at, (hpr.2.2.2 hnd).2, eD, if_pos]
          have := (hpr.2.2.2 hnd).1
          simp [INF]; omega
      · have hd : sDn T Lw (μ.1 152) i := Classical.byContradiction (fun z => by rw [if_neg z] at h; exact h rfl)
        have hm04 : mOff [149, 150, 154, 155] [55] μ (wI μ2 154 (nI i).toNatClampNeg (-1)) := hm02.trans (mOff_wC (by decide) (by decide))
        refine gate _ hm04 (fun k hk => ?_) ?_
        · rw [hii, wI_ne (show (155 : Nat) ≠ 154 by decide), wI_off' (by omega)]; exact hc2 k hk
        · rw [hii, wI_at, hpr.2.2.1 hd]; rfl
  exact key 0 (by omega) μ mOff.refl (fun k hk => by omega)
theorem c_X12_through (hG : gMM G) {μ : jM} (hP : gNN μ) {v k p : Nat} {T : sT} {Lw : Nat → sLaw} (ht : txM μ v T Lw) (hk : k < T 0 1) (hp : p < 8) : jC0 l mX12_through 0 G [.ref 112, .int (nI k), .int (nI p)] μ (pI fun r μ' => μ' = μ ∧ r = match thr T k p with | some o => nI o | none => -1) := by
  refine jC0.of' (ls := [.ref 112, .int (nI k), .int (nI p), .null]) rfl rfl rfl (fun _ _ => Nat.le_of_ble_eq_true rfl) ?_
  have hv := ht.1.1
  have hnk := ht.2.2.2.2.2.1.2.1
  have h0 := ht.2.2.2.2.2.1.1
  have hik := ix12 ht.1.2 (rfl : nI k = nI k)
  have hck : (nI (12 * v + k)).toNatClampNeg = 12 * v + k := nI_clamp (by omega)
  obtain ⟨g1, g2, -, -⟩ := ht.2.2.1 k hk
  obtain ⟨p1, p2, -⟩ := ht.2.2.2.2.2.2.1 k hk
  refine b_X12_through_0 hG hP (by rw [hik]; exact vp_in_nI (by omega) (by omega)) (fun h1 h2 => ⟨rfl, ?_⟩) (fun h1 h2 => ⟨rfl, ?_⟩) (fun h1 => ⟨rfl, ?_⟩)
  · rw [hik, hck, g1] at h1; rw [hik, hck, g2] at h2
    have e1 : ¬ T 1 k = p := fun z => h1 (by rw [z])
    have e2 : ¬ T 2 k = p := fun z => h2 (by rw [z])
    simp [thr, e1, e2]
  · rw [hik, hck, g1] at h1; rw [hik, hck, g2] at h2; rw [hik, hck, g1]
    have e1 : ¬ T 1 k = p := fun z => h1 (by rw [z])
    have e2 : T 2 k = p := (nI_eq (by omega) (by omega)).mp h2
    simp [thr, e1, e2]
  · rw [hik, hck, g1] at h1; rw [hik, hck, g2]
    have e1 : T 1 k = p := (nI_eq (by omega) (by omega)).mp h1
    simp [thr, e1]
end WaysM
