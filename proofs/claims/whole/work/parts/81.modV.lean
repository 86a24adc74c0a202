/-! THE REFERENCE ANSWERS: meets, sheet -/
section ModV
variable {l : Launch} {G : jG}
theorem c_X12_meets (hG : gMM G) {μ : jM} (hP : gNN μ) {v B : Nat} {T : sT} {Lw : Nat → sLaw} {S : sR} (hm : mNow μ v T Lw S) (hg : rgS S B) (hB : B ≤ BB) (x y : Int32) : jC0 l mX12_meets 2 G [.ref 112, .int x, .int y] μ (pI fun z μ' => z = rMeets T S x y ∧ mQ μ μ') := by
  refine jC0.of' (ls := [.ref 112, .int x, .int y, .null]) rfl rfl rfl (fun _ _ => Nat.le_of_ble_eq_true rfl) ?_
  have hv := hm.1.2.2.2.2.2
  have h7 := hv.1.2.2.1
  have hv2 := hm.1.1.1
  have hz := mQ.refl hm.2.2.1
  refine b_X12_meets_0 hG hP (c_X12_isGhost hG hP hm.1 x) ?_
  rintro z μ1 ⟨rfl, ⟨rfl, hx⟩ | ⟨rfl, hx⟩⟩
  · obtain ⟨a, ha, rfl⟩ := hx
    rw [show rMeets T S (nI a) y = _ from gIf_in ha (by omega)]
    refine b_X12_meets_5 hG hP (fun h => absurd h (by decide)) (fun _ => c_X12_isGhost hG hP hm.1 y) (fun _ => ?_)
    rintro z μ2 ⟨rfl, ⟨rfl, hy⟩ | ⟨rfl, hy⟩⟩
    · obtain ⟨o, ho, rfl⟩ := hy
      rw [gIf_in ho (by omega)]
      have hao : nI a = nI o ↔ a = o := nI_eq (by omega) (by omega)
      refine b_X12_meets_13 hG hP (fun h => absurd h (by decide)) (fun _ h => ?_) (fun _ h => ⟨(if_pos (hao.mp h)).symm, hz⟩)
      rw [if_neg (fun z => h (hao.mpr z))]
      obtain ⟨n, hn, en⟩ := hg.1
      have hnB : n < 2 ^ 30 := by have : B ≤ 2 ^ 18 := hB; omega
      rw [hm.2.1, en, nI_clamp (by omega)]
      have ix : ∀ b, b < T 0 2 → (7 * (μ2.1 112 18)) + nI b = nI (7 * v + b) := fun b _ => ix7 hm.1.1.2 rfl
      have ev : ∀ b, b < T 0 2 → μ2.1 134 ((7 * (μ2.1 112 18)) + nI b).toNatClampNeg = nI (T 9 b) := fun b hb => by
        rw [ix b hb, nI_clamp (by omega)]; exact (hm.1.2.2.2.1 b hb).2.2.2.2
      have iv : ∀ b, b < T 0 2 → vp_in ((7 * (μ2.1 112 18)) + nI b) 14 := fun b hb => by
        rw [ix b hb]; exact vp_in_nI (by omega) (by decide)
      have e9 : ∀ b, b < T 0 2 → ¬ nI (T 9 b) = 0 := fun b hb => by
        have := hv.2.2.1 b hb
        intro z
        have := (nI_eq (b := 0) (by omega) (by decide)).mp z
        omega
      have mt : ∀ j, mtP T a o (n + j) = true ↔ evP T a (n + j) ∧ evP T o (n + j) := fun j => by unfold mtP; exact @decide_eq_true_iff _ (Classical.propDecidable _)
      have loop : ∀ (m j : Nat), j + m = 100 - n → (∀ i, i < j → ¬ mtP T a o (n + i) = true) → J l mX12_meets (jZ0 2 G (pI fun z μ' => z = mtV T n a o ∧ mQ μ2 μ')) G 0 0 31 [.ref 112, .int (nI a), .int (nI o), .int (nI (n + j))] [] μ2 := by
        intro m
        induction m with
        | zero =>
          intro j hj hno
          have h99 : (99 : Int32) < nI (n + j) := by
            rw [i32_lt, nI_toInt (by omega)]; show (99 : Int) < _; omega
          exact b_X12_meets_31 hG hP (fun _ => ⟨(mtV_no (fun i hi => hno i (by omega))).symm, hz⟩) (fun h => absurd h99 h) (fun h => absurd h99 h) (fun h => absurd h99 h) (fun h => absurd h99 h) (fun h => absurd h99 h) (fun h => absurd h99 h) (fun h => absurd h99 h)
        | succ m ih =>
          intro j hj hno
          have h99 : ¬ (99 : Int32) < nI (n + j) := nI_nlt (a := 99) (by omega) (by decide)
          have hnx : ¬ mtP T a o (n + j) = true → J l mX12_meets (jZ0 2 G (pI fun z μ' => z = mtV T n a o ∧ mQ μ2 μ')) G 0 0 31 [.ref 112, .int (nI a), .int (nI o), .int (nI (n + j) + 1)] [] μ2 := fun hnm => by
            rw [nI_inc]
            exact ih (j + 1) (by omega) (fun i hi => by
              by_cases e : i = j
              · rw [e]; exact hnm
              · exact hno i (by omega))
          refine b_X12_meets_31 hG hP (fun h => absurd h h99) (fun _ => iv a ha) (fun _ => by rw [ev a ha]; exact e9 a ha) (fun _ h => ?_) (fun _ _ => iv o ho) (fun _ _ => by rw [ev o ho]; exact e9 o ho) (fun _ h1 h2 => ?_) (fun _ h1 h2 => ⟨?_, hz⟩)
          · rw [ev a ha] at h
            exact hnx (fun z => h ((mt j).mp z).1)
          · rw [ev o ho] at h2
            exact hnx (fun z => h2 ((mt j).mp z).2)
          · rw [ev a ha] at h1
            rw [ev o ho] at h2
            exact (mtV_at (by omega) ((mt j).mpr ⟨h1, h2⟩) hno).symm
      exact loop (100 - n) 0 (by omega) (fun i hi => by omega)
    · exact b_X12_meets_13 hG hP (fun _ => ⟨(gIf_out hy).symm, hz⟩) (fun h => absurd rfl h) (fun h => absurd rfl h)
  · exact b_X12_meets_5 (ψ1 := fun _ _ => True) hG hP (fun _ => ⟨(gIf_out hx).symm, hz⟩) (fun h => absurd rfl h) (fun h => absurd rfl h)
theorem c_X12_common (hG : gMM G) {μ : jM} (hP : gNN μ) {a b : Nat} (ha : a < 2 ^ 31) (hb : b < 2 ^ 31) : jC0 l mX12_common 0 G [.int (nI a), .int (nI b)] μ (pI fun z μ' => μ' = μ ∧ z = nI (Nat.gcd a b)) := by
  refine jC0.of' (ls := [.int (nI a), .int (nI b), .null, .null, .null]) rfl rfl rfl (fun _ _ => Nat.le_of_ble_eq_true rfl) ?_
  refine b_X12_common_0 hG hP ?_
  have loop : ∀ (m b a : Nat), b ≤ m → a < 2 ^ 31 → b < 2 ^ 31 → J l mX12_common (jZ0 0 G (pI fun z μ' => μ' = μ ∧ z = nI (Nat.gcd a b))) G 0 0 4 [.null, .null, .int (nI a), .int (nI b), .null] [] μ := by
    intro m
    induction m with
    | zero =>
      intro b a hbm ha hb
      have : b = 0 := by omega
      subst this
      exact b_X12_common_4 hG hP (fun _ => ⟨rfl, by rw [Nat.gcd_zero_right]⟩) (fun h => absurd rfl h) (fun h => absurd rfl h)
    | succ m ih =>
      intro b a hbm ha hb
      by_cases h0 : b = 0
      · subst h0
        exact b_X12_common_4 hG hP (fun _ => ⟨rfl, by rw [Nat.gcd_zero_right]⟩) (fun h => absurd rfl h) (fun h => absurd rfl h)
      · have hn0 : ¬ nI b = 0 := fun z => h0 ((nI_eq (b := 0) hb (by decide)).mp z)
        refine b_X12_common_4 hG hP (fun h => absurd h hn0) (fun _ => hn0) (fun _ => ?_)
        rw [pk_rem (d := b) ha (by omega) hb]
        have hlt : a % b < b := Nat.mod_lt _ (by omega)
        have := ih (a % b) b (by omega) hb (by omega)
        rw [Nat.gcd_comm b (a % b), ← Nat.gcd_rec, Nat.gcd_comm b a] at this
        exact this
  exact loop b b a (Nat.le_refl _) ha hb
theorem nI_subN {a b : Nat} (h : b ≤ a) : nI a - nI b = nI (a - b) := by
  have : nI a = nI (a - b) + nI b := by rw [nI_add]; congr 1; omega
  rw [this, Int32.sub_eq_add_neg, Int32.add_assoc, Int32.add_right_neg, Int32.add_zero]
theorem c_X12_sheet (hG : gMM G) {μ : jM} (hP : gNN μ) {v : Nat} {T : sT} {Lw : Nat → sLaw} {S : sR} (hm : mNow μ v T Lw S) (d b : Int32) : jC0 l mX12_sheet 1 G [.ref 112, .int d, .int b] μ (pI fun z μ' => z = rSheet T d b ∧ mQ μ μ') := by
  refine jC0.of' (ls := [.ref 112, .int d, .int b, .null, .null, .null, .null]) rfl rfl rfl (fun _ _ => Nat.le_of_ble_eq_true rfl) ?_
  have hv := hm.1.2.2.2.2.2
  have h5 := hv.1.2.2.2.2.2.1
  have h6 := hv.1.2.2.2.2.2.2.1
  have hz := mQ.refl hm.2.2.1
  have n1 : vp_in (μ.1 112 18) 2 := ix_in hm.1.1.2 hm.1.1.1 (by decide)
  have c1 : (μ.1 112 18).toNatClampNeg = v := ix_cl hm.1.1.2 (by have := hm.1.1.1; omega)
  have e136 : μ.1 136 (μ.1 112 18).toNatClampNeg = nI (T 0 5) := by rw [c1]; exact hm.1.2.1.2.2.2.2.2.1
  have e137 : μ.1 137 (μ.1 112 18).toNatClampNeg = nI (T 0 6) := by rw [c1]; exact hm.1.2.1.2.2.2.2.2.2.1
  have e100 : ∀ n, n ≤ 100 → (100 : Int32) - nI n = nI (100 - n) := fun n hn => nI_subN (a := 100) hn
  -- what comes behind, by the two numbers
  have tail : ∀ p q : Nat, shP T d = p → shO T d = q → p + q < 2 ^ 31 → ∀ z μ', μ' = μ ∧ z = nI (Nat.gcd p (p + q)) → ¬ nI (p + q) = 0 → J l mX12_sheet (jZ0 1 G (pI fun z μ' => z = rSheet T d b ∧ mQ μ μ')) G 0 0 86 [.null, .null, .int b, .null, .int (nI p), .int (nI (p + q)), .null] [.int z] μ' := by
    rintro p q hp hq hlt z μ' ⟨rfl, rfl⟩ hne
    have hpq : p + q ≠ 0 := fun e => hne (by rw [e]; rfl)
    have hg : Nat.gcd p (p + q) ≤ p + q := Nat.le_of_dvd (by omega) (Nat.gcd_dvd_right _ _)
    have hg0 : 0 < Nat.gcd p (p + q) := Nat.gcd_pos_of_pos_right _ (by omega)
    have hgn : ¬ nI (Nat.gcd p (p + q)) = 0 := fun e => by have := (nI_eq (b := 0) (by omega) (by decide)).mp e; omega
    have er : rSheet T d b = nI ((if b = 0 then p else p + q) / Nat.gcd p (p + q)) := by unfold rSheet; rw [hp, hq, if_neg hpq]
    refine b_X12_sheet_86 hG hP (fun _ => hgn) (fun h => ⟨?_, hz⟩) (fun _ => hgn) (fun h => ⟨?_, hz⟩)
    · rw [er, if_pos h]; exact pk_div (by omega) (by omega) (by omega)
    · rw [er, if_neg h]; exact pk_div (by omega) (by omega) (by omega)
  have none : ∀ p q : Nat, shP T d = p → shO T d = q → p + q < 2 ^ 31 → nI (p + q) = 0 → rSheet T d b = if b = 0 then 0 else 1 := fun p q hp hq hlt h => by
    have := (nI_eq (b := 0) hlt (by decide)).mp h
    unfold rSheet; rw [hp, hq, if_pos this]
  have m1 : ∀ x y : Nat, x ≤ 100 → y ≤ 100 → x * y ≤ 10000 := fun x y hx hy => Nat.mul_le_mul hx hy
  by_cases hd : d = 0
  · have pe : shP T d = T 0 5 * (100 - T 0 6) := by unfold shP; rw [if_pos hd]
    have qe : shO T d = (100 - T 0 5) * (100 - (100 - T 0 6)) := by unfold shO; rw [if_pos hd]
    have hb1 := m1 (T 0 5) (100 - T 0 6) h5 (by omega)
    have hb2 := m1 (100 - T 0 5) (100 - (100 - T 0 6)) (by omega) (by omega)
    have a1 : (nI (T 0 5)) * (100 - nI (T 0 6)) = nI (T 0 5 * (100 - T 0 6)) := by rw [e100 _ h6, pk_mul]
    have a2 : ((100 : Int32) - nI (T 0 5)) * (100 - (100 - nI (T 0 6))) = nI ((100 - T 0 5) * (100 - (100 - T 0 6))) := by rw [e100 (T 0 6) h6, e100 (T 0 5) h5, e100 (100 - T 0 6) (by omega), pk_mul]
    generalize T 0 5 * (100 - T 0 6) = p at *
    generalize (100 - T 0 5) * (100 - (100 - T 0 6)) = q at *
    refine b_X12_sheet_0 (ψ0 := fun z μ' => μ' = μ ∧ z = nI (Nat.gcd p (p + q))) (ψ3 := fun _ _ => True) hG hP (fun _ => n1) (fun _ _ => ?_) (fun _ h => ?_) (fun _ h h1 => ⟨?_, hz⟩) (fun _ h h1 => ⟨?_, hz⟩) (fun h => absurd hd h) (fun h => absurd hd h) (fun h => absurd hd h) (fun h => absurd hd h) (fun h => absurd hd h)
    · rw [e136, e137, a1, a2, nI_add]; exact c_X12_common hG hP (by omega) (by omega)
    · rw [e136, e137, a1, a2, nI_add] at h
      rw [e136, e137, a1, a2, nI_add]
      exact fun z μ' hz' => tail p q pe qe (by omega) z μ' hz' h
    · rw [e136, e137, a1, a2, nI_add] at h
      rw [none p q pe qe (by omega) h, if_pos h1]
    · rw [e136, e137, a1, a2, nI_add] at h
      rw [none p q pe qe (by omega) h, if_neg h1]
  · have pe : shP T d = T 0 5 * T 0 6 := by unfold shP; rw [if_neg hd]
    have qe : shO T d = (100 - T 0 5) * (100 - T 0 6) := by unfold shO; rw [if_neg hd]
    have hb1 := m1 (T 0 5) (T 0 6) h5 h6
    have hb2 := m1 (100 - T 0 5) (100 - T 0 6) (by omega) (by omega)
    have a1 : (nI (T 0 5)) * (nI (T 0 6)) = nI (T 0 5 * T 0 6) := by rw [pk_mul]
    have a2 : ((100 : Int32) - nI (T 0 5)) * (100 - nI (T 0 6)) = nI ((100 - T 0 5) * (100 - T 0 6)) := by rw [e100 _ h6, e100 _ h5, pk_mul]
    generalize T 0 5 * T 0 6 = p at *
    generalize (100 - T 0 5) * (100 - T 0 6) = q at *
    refine b_X12_sheet_0 (ψ0 := fun _ _ => True) (ψ3 := fun z μ' => μ' = μ ∧ z = nI (Nat.gcd p (p + q))) hG hP (fun h => absurd h hd) (fun h => absurd h hd) (fun h => absurd h hd) (fun h => absurd h hd) (fun h => absurd h hd) (fun _ => n1) (fun _ _ => ?_) (fun _ h => ?_) (fun _ h h1 => ⟨?_, hz⟩) (fun _ h h1 => ⟨?_, hz⟩)
    · rw [e136, e137, a1, a2, nI_add]; exact c_X12_common hG hP (by omega) (by omega)
    · rw [e136, e137, a1, a2, nI_add] at h
      rw [e136, e137, a1, a2, nI_add]
      exact fun z μ' hz' => tail p q pe qe (by omega) z μ' hz' h
    · rw [e136, e137, a1, a2, nI_add] at h
      rw [none p q pe qe (by omega) h, if_pos h1]
    · rw [e136, e137, a1, a2, nI_add] at h
      rw [none p q pe qe (by omega) h, if_neg h1]
end ModV
