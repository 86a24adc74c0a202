/-! THE REFERENCE: its small methods -/
section ModA
variable {l : Launch} {G : jG} {μ : jM}
theorem c_X12_in (hG : gMM G) (hP : gNN μ) (v a b : Int32) : jC0 l mX12_in 0 G [.int v, .int a, .int b] μ (pI fun r μ' => μ' = μ ∧ r = if a ≤ v ∧ v ≤ b then 1 else 0) := by
  refine jC0.of' (ls := [.int v, .int a, .int b]) rfl rfl rfl (fun _ _ => Nat.le_of_ble_eq_true rfl) ?_
  refine b_X12_in_0 hG hP (fun h => ⟨rfl, ?_⟩) (fun h1 h2 => ⟨rfl, ?_⟩) (fun h1 h2 => ⟨rfl, ?_⟩)
  · rw [if_neg]; rintro ⟨h1, h2⟩; rw [i32_lt] at h; rw [i32_le] at h1; omega
  · rw [if_neg]; rintro ⟨h3, h4⟩; rw [i32_lt] at h2; rw [i32_le] at h4; omega
  · rw [if_pos]; rw [i32_lt] at h1 h2; rw [i32_le, i32_le]; omega
def sBits (x : Int32) : Nat → Int32
  | 0 => 0
  | n + 1 => sBits x n + ((x >>> (nI n &&& 31)) &&& 1)
theorem c_X12_bits (hG : gMM G) (hP : gNN μ) (x : Int32) : jC0 l mX12_bits 0 G [.int x] μ (pI fun r μ' => μ' = μ ∧ r = sBits x 12) := by
  refine jC0.of' (ls := [.int x, .null, .null]) rfl rfl rfl (fun _ _ => Nat.le_of_ble_eq_true rfl) ?_
  refine b_X12_bits_0 hG hP ?_
  have key : ∀ i, i ≤ 12 → J l mX12_bits (jZ0 0 G (pI fun r μ' => μ' = μ ∧ r = sBits x 12)) G 0 0 4 [.int x, .int (sBits x i), .int (nI i)] [] μ := by
    refine up_loop 12 ?_ (fun i hi ih => ?_)
    · exact b_X12_bits_4 hG hP (fun _ => ⟨rfl, rfl⟩) (fun h => absurd (by decide) h)
    · refine b_X12_bits_4 hG hP (fun h => ?_) (fun h => ?_)
      · exact absurd h (nI_ge (b := 12) hi (by omega))
      · rw [nI_inc]; exact ih
  exact key 0 (by omega)
def sMix (h v : Int32) : Int32 := (((h ^^^ v) * 1103515245) + 12345) ^^^ ((Int32.toUInt32 (((h ^^^ v) * 1103515245) + 12345) >>> (Int32.toUInt32 15 &&& Int32.toUInt32 31)).toInt32)
theorem c_X12_mixed (hG : gMM G) (hP : gNN μ) (h v : Int32) : jC0 l mX12_mixed 0 G [.int h, .int v] μ (pI fun r μ' => μ' = μ ∧ r = sMix h v) := by
  refine jC0.of' (ls := [.int h, .int v, .null]) rfl rfl rfl (fun _ _ => Nat.le_of_ble_eq_true rfl) ?_
  exact b_X12_mixed_0 hG hP ⟨rfl, rfl⟩
def sLot (h : Int32) : Int32 := (Int32.toUInt32 h >>> (Int32.toUInt32 1 &&& Int32.toUInt32 31)).toInt32
def sFoggy (fog lots night : Int32) : Int32 := if fog ≤ sLot (sMix (sMix lots 73) night) - sLot (sMix (sMix lots 73) night) / 100 * 100 then 0 else 1
theorem c_X12_isFoggy (hG : gMM G) (hP : gNN μ) {v : Nat} (hv : v < 2) (hl : μ.1 112 18 = nI v) : jC0 l mX12_isFoggy 1 G [.ref 112] μ (pI fun r μ' => μ' = μ ∧ r = sFoggy (μ.1 135 v) (μ.1 112 58) (μ.1 152 67)) := by
  refine jC0.of' (ls := [.ref 112]) rfl rfl rfl (fun _ _ => Nat.le_of_ble_eq_true rfl) ?_
  have hi := ix_in hl (N := 2) hv (by omega)
  have hc := ix_cl hl (by omega)
  refine b_X12_isFoggy_0 hG hP (c_X12_mixed hG hP _ _) ?_
  rintro _ _ ⟨rfl, rfl⟩
  refine b_X12_isFoggy_9 hG hP (c_X12_mixed hG hP _ _) ?_
  rintro _ _ ⟨rfl, rfl⟩
  refine b_X12_isFoggy_19 hG hP hi (fun h => ⟨rfl, ?_⟩) (fun h => ⟨rfl, ?_⟩)
  · rw [hc] at h; exact (if_pos h).symm
  · rw [hc] at h; exact (if_neg h).symm
end ModA
