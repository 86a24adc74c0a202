/-! HOW MANY BITS -/
section CountC
variable {l : Launch} {G : jG}
theorem c_JI_bitCount (hG : gGG G) {μ : jM} (hP : gPP μ) (n : Nat) (hn : n < 4096) : jC0 l mJI_bitCount 0 G [.int (nI n)] μ (pI fun z μ' => μ' = μ ∧ z = sBits (nI n) 12) := by
  refine jC0.of' (ls := [.int (nI n)]) rfl rfl rfl (fun _ _ => Nat.le_of_ble_eq_true rfl) ?_
  refine b_JI_bitCount_0 hG hP ⟨rfl, ?_⟩
  have e : n = 64 * (n / 64) + n % 64 := by omega
  have h1 : n / 64 < 64 := by omega
  have h2 : n % 64 < 64 := by omega
  rw [e]
  generalize n / 64 = a at h1
  generalize n % 64 = b at h2
  clear e hn
  clear n
  revert a b
  decide +kernel
end CountC
