/-! THE REFERENCE: what a ROAD costs -/
section CostM
variable {l : Launch} {G : jG}
theorem nI_rem2 (k : Nat) (hk : k < 2 ^ 31) : nI k - nI k / 2 * 2 = nI (k % 2) := pk_rem (d := 2) hk (by decide) (by decide)
theorem c_X12_rateOn (hG : gMM G) {μ : jM} (hP : gNN μ) {k : Nat} (hk : k < 12) : jC0 l mX12_rateOn 0 G [.ref 112, .int (nI k)] μ (pI fun r μ' => μ' = μ ∧ r = sRt (μ.1 152) (μ.1 112 60) k) := by
  refine jC0.of' (ls := [.ref 112, .int (nI k)]) rfl rfl rfl (fun _ _ => Nat.le_of_ble_eq_true rfl) ?_
  have h2 := nI_rem2 k (by omega)
  refine b_X12_rateOn_0 hG hP (fun h => ⟨rfl, ?_⟩) (fun h h1 => ⟨rfl, ?_⟩) (fun h h1 => ⟨rfl, ?_⟩)
  · simp [sRt, h]
  · rw [h2] at h1
    have : ¬ k % 2 = 1 := fun z => h1 (by rw [z]; rfl)
    simp [sRt, h, this]
  · rw [h2] at h1
    have : k % 2 = 1 := (nI_eq (b := 1) (by omega) (by omega)).mp h1
    simp [sRt, h, this]
theorem c_X12_hasGate (hG : gMM G) {μ : jM} (hP : gNN μ) (k : Nat) : jC0 l mX12_hasGate 0 G [.ref 112, .int (nI k)] μ (pI fun r μ' => μ' = μ ∧ ((r = 1 ∧ sGt (μ.1 152) k) ∨ (r = 0 ∧ ¬ sGt (μ.1 152) k))) := by
  refine jC0.of' (ls := [.ref 112, .int (nI k)]) rfl rfl rfl (fun _ _ => Nat.le_of_ble_eq_true rfl) ?_
  exact b_X12_hasGate_0 hG hP (fun h => ⟨rfl, Or.inr ⟨rfl, h⟩⟩) (fun h => ⟨rfl, Or.inl ⟨rfl, h⟩⟩)
theorem ix12 {x y : Int32} {v k : Nat} (hx : x = nI v) (hy : y = nI k) : (12 * x) + y = nI (12 * v + k) := by rw [hx, hy, show (12 : Int32) = nI 12 from rfl, pk_mul, nI_add]
theorem ix7 {x y : Int32} {v k : Nat} (hx : x = nI v) (hy : y = nI k) : (7 * x) + y = nI (7 * v + k) := by rw [hx, hy, show (7 : Int32) = nI 7 from rfl, pk_mul, nI_add]
theorem c_X12_overField (hG : gMM G) {μ : jM} (hP : gNN μ) {v k : Nat} {T : sT} {Lw : Nat → sLaw} (ht : txM μ v T Lw) (hk : k < T 0 1) : jC0 l mX12_overField 0 G [.ref 112, .int (nI k)] μ (pI fun r μ' => μ' = μ ∧ r = nI (T 4 k)) := by
  refine jC0.of' (ls := [.ref 112, .int (nI k)]) rfl rfl rfl (fun _ _ => Nat.le_of_ble_eq_true rfl) ?_
  have hv := ht.1.1
  have hn := ht.2.2.2.2.2.1.2.1
  have hi := ix12 ht.1.2 (rfl : nI k = nI k)
  have hcl : (nI (12 * v + k)).toNatClampNeg = 12 * v + k := nI_clamp (by omega)
  have hf := (ht.2.2.1 k hk).2.2.2
  have h4 := (ht.2.2.2.2.2.2.1 k hk).2.2.2.2.2
  refine b_X12_overField_0 hG hP (by rw [hi]; exact vp_in_nI (by omega) (by omega)) ⟨rfl, by rw [hi, hcl, hf]⟩ ?_
  rw [hi, hcl, hf]
  rcases Nat.le_one_iff_eq_zero_or_eq_one.mp h4 with h | h <;> rw [h]
  · exact Or.inl rfl
  · exact Or.inr rfl
theorem c_X12_isHis (hG : gMM G) {μ : jM} (hP : gNN μ) {v a : Nat} {T : sT} {Lw : Nat → sLaw} (ht : txM μ v T Lw) (ha : a < T 0 2) : jC0 l mX12_isHis 0 G [.ref 112, .int (nI a)] μ (pI fun r μ' => μ' = μ ∧ ((r = 1 ∧ μ.1 152 67 - μ.1 152 67 / nI (T 9 a) * nI (T 9 a) = 0) ∨ (r = 0 ∧ ¬ μ.1 152 67 - μ.1 152 67 / nI (T 9 a) * nI (T 9 a) = 0))) := by
  refine jC0.of' (ls := [.ref 112, .int (nI a)]) rfl rfl rfl (fun _ _ => Nat.le_of_ble_eq_true rfl) ?_
  have hv := ht.1.1
  have hn := ht.2.2.2.2.2.1.2.2.1
  have hi := ix7 ht.1.2 (rfl : nI a = nI a)
  have hcl : (nI (7 * v + a)).toNatClampNeg = 7 * v + a := nI_clamp (by omega)
  have hf := (ht.2.2.2.1 a ha).2.2.2.2
  have h9 := (ht.2.2.2.2.2.2.2.1 a ha).2.2.2.2.2
  refine b_X12_isHis_0 hG hP (by rw [hi]; exact vp_in_nI (by omega) (by omega)) ?_ (fun h => ⟨rfl, Or.inr ⟨rfl, ?_⟩⟩) (fun h => ⟨rfl, Or.inl ⟨rfl, ?_⟩⟩)
  · rw [hi, hcl, hf]; exact nI_ne0 (by omega) (by omega)
  · rw [hi, hcl, hf] at h; exact h
  · rw [hi, hcl, hf] at h; exact h
/-- the variables that a LAW of a GHOST and a ROAD sees -/
theorem c_X12_looks (hG : gMM G) {μ : jM} (hP : gNN μ) {v a k : Nat} {T : sT} {Lw : Nat → sLaw} (ht : txM μ v T Lw) (ha : a < T 0 2) (hk : k < T 0 1) : jC0 l mX12_looks 2 G [.ref 112, .int (nI a), .int (nI k)] μ (pV fun μ' => mOff [149] [] μ μ' ∧ ∀ i, i < 9 → μ'.1 149 i = vrA T (μ.1 152) (μ.1 112 58) (μ.1 112 60) a k i) := by
  refine jC0.of' (ls := [.ref 112, .int (nI a), .int (nI k)]) rfl rfl rfl (fun _ _ => Nat.le_of_ble_eq_true rfl) ?_
  have hv := ht.1.1
  have hna := ht.2.2.2.2.2.1.2.2.1
  have hnk := ht.2.2.2.2.2.1.2.1
  have hia := ix7 ht.1.2 (rfl : nI a = nI a)
  have hik := ix12 ht.1.2 (rfl : nI k = nI k)
  have hca : (nI (7 * v + a)).toNatClampNeg = 7 * v + a := nI_clamp (by omega)
  have hck : (nI (12 * v + k)).toNatClampNeg = 12 * v + k := nI_clamp (by omega)
  have hkk : (nI k).toNatClampNeg = k := nI_clamp (by omega)
  obtain ⟨-, -, g7, g8, g9⟩ := ht.2.2.2.1 a ha
  obtain ⟨-, -, g3, -⟩ := ht.2.2.1 k hk
  have e4 : Int32.toNatClampNeg 4 = 4 := by decide
  have e3 : Int32.toNatClampNeg 3 = 3 := by decide
  obtain ⟨F3, hF3⟩ : ∃ F : Nat → Int32, F = upd (upd (upd (μ.1 149) 0 (nI (T 7 a))) 1 (nI (T 8 a))) 2 (nI (T 9 a)) := ⟨_, rfl⟩
  have hm3 : wI (wI (wI μ 149 0 (nI (T 7 a))) 149 1 (nI (T 8 a))) 149 2 (nI (T 9 a)) = sI μ 149 F3 := by rw [hF3, show wI μ 149 0 (nI (T 7 a)) = sI μ 149 (upd (μ.1 149) 0 (nI (T 7 a))) from rfl, wI_sI, wI_sI]
  refine b_X12_looks_0 (ψ0 := fun r μ' => μ' = sI μ 149 F3 ∧ r = sFg T (μ.1 152) (μ.1 112 58)) hG hP (by rw [hia]; exact vp_in_nI (by omega) (by omega)) ?_ ?_
  · rw [hia, hca, g7, g8, g9, hm3]
    refine (c_X12_isFoggy (μ := sI μ 149 F3) hG hP hv ht.1.2).mono (pI_mono ?_)
    rintro r μ' ⟨rfl, rfl⟩
    refine ⟨rfl, ?_⟩
    rw [sI_ne (by decide), sI_ne (by decide), sI_ne (by decide), ht.2.1.2.2.2.2.1]
    rfl
  · rintro r μ1 ⟨rfl, rfl⟩
    obtain ⟨F4, hF4⟩ : ∃ F : Nat → Int32, F = upd F3 3 (sFg T (μ.1 152) (μ.1 112 58)) := ⟨_, rfl⟩
    have key : ∀ fg : Int32, fg = sFg T (μ.1 152) (μ.1 112 58) → jC0 l mX12_rateOn 0 G [.ref 112, .int (nI k)] (wI (sI μ 149 F3) 149 (Int32.toNatClampNeg 3) fg) (pI fun r μ' => μ' = sI μ 149 F4 ∧ r = sRt (μ.1 152) (μ.1 112 60) k) := by
      rintro fg rfl
      rw [e3, wI_sI, ← hF4]
      refine (c_X12_rateOn (μ := sI μ 149 F4) hG hP (k := k) (by omega)).mono (pI_mono ?_)
      rintro r μ' ⟨rfl, rfl⟩
      exact ⟨rfl, by rw [sI_ne (by decide), sI_ne (by decide)]⟩
    have fin : ∀ r μ', μ' = sI μ 149 F4 ∧ r = sRt (μ.1 152) (μ.1 112 60) k → J l mX12_looks (jZ0 2 G (pV fun μ' => mOff [149] [] μ μ' ∧ ∀ i, i < 9 → μ'.1 149 i = vrA T (μ.1 152) (μ.1 112 58) (μ.1 112 60) a k i)) G 0 0 88 [.ref 112, .null, .int (nI k)] [.int r, .int 4, .ref 149] μ' := by
      rintro r μ' ⟨rfl, rfl⟩
      have h18 : (sI μ 149 F4).1 112 18 = nI v := by rw [sI_ne (by decide)]; exact ht.1.2
      have hik' := ix12 h18 (rfl : nI k = nI k)
      refine b_X12_looks_88 (μ := sI μ 149 F4) hG hP (vpK (by decide)) ?_ ?_ ?_
      · rw [hik']; exact vp_in_nI (by omega) (by omega)
      · exact vp_in_nI (by omega) (by omega)
      · rw [hik', hck, hkk, e4, sI_ne (show (126 : Nat) ≠ 149 by decide), sI_ne (show (152 : Nat) ≠ 149 by decide), g3, wI_sI, wI_sI, wI_sI, wI_sI, wI_sI]
        refine ⟨mOff_sI (by decide) (by decide), ?_⟩
        intro i hi
        rw [sI_eq, hF4, hF3]
        exact upd9 _ _ _ _ _ _ _ _ _ _ i hi
    refine b_X12_looks_69 (ψ0 := fun r μ' => μ' = sI μ 149 F4 ∧ r = sRt (μ.1 152) (μ.1 112 60) k) (ψ1 := fun r μ' => μ' = sI μ 149 F4 ∧ r = sRt (μ.1 152) (μ.1 112 60) k) (μ := sI μ 149 F3) hG hP (fun _ => vpK (by decide)) (fun h => key 0 h.symm) (fun h => fin) (fun _ => vpK (by decide)) (fun h => key 1 ?_) (fun h => fin)
    unfold sFg sFoggy at h ⊢
    split at h
    · exact absurd rfl h
    · rename_i h2; rw [if_neg h2]
/-! what a GHOST owes, what a ROAD costs him, whether it is down -/
def rtOK (S : sR) (od : Int32) : Prop := 0 ≤ (S 65).toInt ∧ (S 65).toInt ≤ 9 ∧ od.toInt ≤ 9
theorem in9 {x : Int32} (h1 : 0 ≤ x.toInt) (h2 : x.toInt ≤ 9) : ¬ x < 0 ∧ ¬ (99 : Int32) < x := by
  rw [i32_lt, i32_lt, show (0 : Int32).toInt = 0 from rfl, show (99 : Int32).toInt = 99 from rfl]; omega
theorem sRt_in {S : sR} {od : Int32} (h : rtOK S od) (k : Nat) : ¬ sRt S od k < 0 ∧ ¬ (99 : Int32) < sRt S od k := by
  obtain ⟨h1, h2, h3⟩ := h
  unfold sRt
  by_cases h4 : od < 0
  · rw [if_pos h4]; exact in9 h1 h2
  · rw [if_neg h4]
    rw [i32_lt, show (0 : Int32).toInt = 0 from rfl] at h4
    by_cases h5 : k % 2 = 1
    · rw [if_pos h5]; exact in9 (by omega) h3
    · rw [if_neg h5]; exact in9 h1 h2
theorem sEv_var {vr : Nat → Int32} (i : Nat) (hi : i < 9) : sEv vr [(1, nI i)] = some (vr i) := by
  simp [sEv, rE, nI_clamp (show i < 2 ^ 31 by omega)]
theorem plainO {T : sT} {S : sR} {lots od : Int32} {a k : Nat} (h : rtOK S od) {Lw : Nat → sLaw} (hL : Lw 0 = dLaw 0) : lawV (vrA T S lots od a k) (Lw 0) 99 = sRt S od k := by
  have h1 := sRt_in h k
  rw [hL]
  have : lE (vrA T S lots od a k) (dLaw 0) = some (sRt S od k) := sEv_var 4 (by decide)
  rw [lawV, this, sHeld, if_neg h1.1, if_neg h1.2]
theorem c_X12_owesOn (hG : gMM G) {μ : jM} (hP : gNN μ) {v a k : Nat} {T : sT} {Lw : Nat → sLaw} (ht : txM μ v T Lw) (ha : a < T 0 2) (hk : k < T 0 1) (hr : rtOK (μ.1 152) (μ.1 112 60)) : jC0 l mX12_owesOn 3 G [.ref 112, .int (nI a), .int (nI k)] μ (pI fun r μ' => mOff [149, 150] [55] μ μ' ∧ r = sOwes T Lw (μ.1 152) (μ.1 112 58) (μ.1 112 60) a k) := by
  refine jC0.of' (ls := [.ref 112, .int (nI a), .int (nI k)]) rfl rfl rfl (fun _ _ => Nat.le_of_ble_eq_true rfl) ?_
  have hnk := ht.2.2.2.2.2.1.2.1
  have hw := ht.2.2.2.2.2.2.2.2 0
  refine b_X12_owesOn_0 hG hP (c_X12_looks hG hP ht ha hk) ?_
  rintro μ1 ⟨hm1, hv1⟩
  have hP1 := hm1.gNN hP
  have ht1 := txM_off hm1 ⟨by decide, by decide⟩ ht
  refine b_X12_owesOn_6 hG hP1 (c_X12_rateOn hG hP1 (by omega)) ?_
  rintro r μ1 ⟨rfl, rfl⟩
  have hlv : lawV (μ1.1 149) (Lw 0) 99 = lawV (vrA T (μ.1 152) (μ.1 112 58) (μ.1 112 60) a k) (Lw 0) 99 := lawV_congr hv1 hw
  refine b_X12_owesOn_13 hG hP1 (c_X12_asks hG hP1 ht1.1.1 ht1.1.2 (q := 0) (by decide) rfl (by decide) (L := Lw 0) ?_) ?_
  · rcases ht1.2.2.2.2.1 0 (by decide) with ⟨h1, h2⟩ | h
    · refine Or.inl ⟨h1, ?_⟩
      rw [hlv, plainO hr h2, hm1.c 152, hm1.f 60]
    · exact Or.inr h
  · rintro r μ2 ⟨rfl, hm2⟩
    exact b_X12_owesOn_18 hG (hm2.gNN hP1) ⟨(hm1.mono (by decide) (by decide)).trans (hm2.mono (by decide) (by decide)), hlv⟩
def sCost (T : sT) (Lw : Nat → sLaw) (S : sR) (lots od : Int32) (a k : Nat) : Int32 := nI (T 3 k) + (if sGt S k then sOwes T Lw S lots od a k else 0) + (if T 4 k = 1 then sFears T Lw S lots od a k else 0)
end CostM
