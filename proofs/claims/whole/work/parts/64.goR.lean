/-! WHAT A WALK DOES TO A ROW -/
theorem addR_ap {S : sR} {i j : Nat} {x : Int32} : addR S i x j = S j + (if j = i then x else 0) := by
  unfold addR upd
  by_cases h : j = i
  · rw [if_pos h, if_pos h, h]
  · rw [if_neg h, if_neg h, Int32.add_zero]
theorem cRow_add {S : sR} {od lots th x : Int32} {i : Nat} (hi : i < 68) : cRow (addR S i x) od lots th = addR (cRow S od lots th) (cix i) x := by
  unfold addR
  rw [cRow_upd hi, cRow_at hi]
theorem cix_lo {i : Nat} (h : i < 64) : cix i = i + 7 := by
  unfold cix
  rw [if_neg (by omega), if_neg (by omega), if_neg (by omega), if_neg (by omega)]
/-- a row's step, place by place -/
theorem sG1_ap {T : sT} {a k j : Nat} {p : Int32} {S : sR} : sG1 T a k p S j = S j + (if j = 24 + k then p else 0) + (if j = 36 + a then p else 0) + (if j = 66 then p else 0) + (if j = k then 1 else 0) + (if T 4 k = 1 ∧ j = 12 + k then 1 else 0) + (if T 4 k = 1 ∧ j = 57 + a then 1 else 0) := by
  unfold sG1
  by_cases h : T 4 k = 1
  · rw [if_pos h]; simp only [addR_ap, h, true_and]
  · rw [if_neg h]; simp only [addR_ap, h, false_and, if_false, Int32.add_zero]
theorem sG1_w {T : sT} {a k j : Nat} {p : Int32} {S : sR} (ha : a < 7) (hj : j < 12) : sG1 T a k p S j = S j + (if j = k then 1 else 0) := by
  rw [sG1_ap, if_neg (show ¬ j = 24 + k by omega), if_neg (show ¬ j = 36 + a by omega), if_neg (show ¬ j = 66 by omega), if_neg (show ¬ (T 4 k = 1 ∧ j = 12 + k) by omega), if_neg (show ¬ (T 4 k = 1 ∧ j = 57 + a) by omega)]
  simp only [Int32.add_zero]
theorem sG1_s {T : sT} {a k j : Nat} {p : Int32} {S : sR} (ha : a < 7) (hk : k < 12) (hj : j < 12) : sG1 T a k p S (12 + j) = S (12 + j) + (if T 4 k = 1 ∧ j = k then 1 else 0) := by
  rw [sG1_ap, if_neg (by omega), if_neg (by omega), if_neg (by omega), if_neg (by omega)]
  rw [show (if T 4 k = 1 ∧ 12 + j = 57 + a then (1 : Int32) else 0) = 0 from if_neg (by omega)]
  simp only [Int32.add_zero]
  by_cases h : T 4 k = 1 ∧ j = k
  · rw [if_pos h, if_pos ⟨h.1, by omega⟩]
  · rw [if_neg h, if_neg (fun z => h ⟨z.1, by omega⟩)]
/-- how often a ROAD is on a WAY; how often one is SEEN there -/
def cnt (W : List Nat) (i : Nat) : Nat := W.count i
def cntS (T : sT) (W : List Nat) (i : Nat) : Nat := if T 4 i = 1 then W.count i else 0
theorem cnt_le (W : List Nat) (i : Nat) : cnt W i ≤ W.length := List.count_le_length
theorem cntS_le (T : sT) (W : List Nat) (i : Nat) : cntS T W i ≤ W.length := by unfold cntS; split; exact List.count_le_length; exact Nat.zero_le _
theorem nI_01 {p : Prop} [Decidable p] (n : Nat) : nI n + (if p then 1 else 0) = nI (n + if p then 1 else 0) := by
  by_cases h : p
  · rw [if_pos h, if_pos h]; exact nI_inc n
  · rw [if_neg h, if_neg h, Int32.add_zero, Nat.add_zero]
theorem sGo_w {T : sT} {ow : Nat → Int32} {a j : Nat} (ha : a < 7) (hj : j < 12) : ∀ (W : List Nat) (c : Int32) (S : sR) (n : Nat), S j = nI n → sGo T ow a W c S j = nI (n + cnt W j) := by
  intro W
  induction W with
  | nil => intro c S n h; simp [sGo, cnt, h]
  | cons k W ih =>
    intro c S n h
    unfold sGo
    rw [ih _ _ (n + if j = k then 1 else 0) (by rw [sG1_w ha hj, h, nI_01])]
    congr 1
    unfold cnt
    rw [List.count_cons]
    by_cases e : j = k
    · simp [e]; omega
    · have e' : ¬ k = j := fun z => e z.symm
      simp [e, e']
theorem sGo_s {T : sT} {ow : Nat → Int32} {a j : Nat} (ha : a < 7) (hj : j < 12) : ∀ (W : List Nat) (c : Int32) (S : sR) (n : Nat), (∀ k ∈ W, k < 12) → S (12 + j) = nI n → sGo T ow a W c S (12 + j) = nI (n + cntS T W j) := by
  intro W
  induction W with
  | nil => intro c S n _ h; simp [sGo, cntS, h]
  | cons k W ih =>
    intro c S n hW h
    unfold sGo
    rw [ih _ _ (n + if T 4 k = 1 ∧ j = k then 1 else 0) (fun q hq => hW q (List.mem_cons_of_mem _ hq)) (by rw [sG1_s ha (hW k List.mem_cons_self) hj, h, nI_01])]
    congr 1
    unfold cntS
    rw [List.count_cons]
    by_cases e : j = k
    · subst e
      by_cases h4 : T 4 j = 1
      · simp [h4]; omega
      · simp [h4]
    · have e' : ¬ k = j := fun z => e z.symm
      simp [e, e']
theorem cnt_pos {W : List Nat} {i : Nat} : 0 < cnt W i ↔ i ∈ W := List.count_pos_iff
/-- a LAW that doesn't look at WEAR -/
theorem v9_6 (x0 x1 x2 x3 x4 x5 x6 x7 x8 y6 : Int32) (i : Nat) (h6 : i ≠ 6) : v9 x0 x1 x2 x3 x4 x5 x6 x7 x8 i = v9 x0 x1 x2 x3 x4 x5 y6 x7 x8 i := by
  unfold v9
  split <;> first | rfl | (exfalso; omega)
theorem law_wear {T : sT} {L : sLaw} {S S' : sR} {lots od most : Int32} {a k : Nat} (hL : uL L 6 = false) (h65 : S' 65 = S 65) (h67 : S' 67 = S 67) : lawV (vrA T S' lots od a k) L most = lawV (vrA T S lots od a k) L most := by
  unfold lawV
  rw [lE_uses L (vr' := vrA T S lots od a k) (fun i hi => ?_)]
  unfold vrA sFg sRt
  rw [h65, h67]
  exact v9_6 _ _ _ _ _ _ _ _ _ _ i (fun z => by rw [z, hL] at hi; cases hi)
/-- ROADS on a WAY aren't BROKEN -/
theorem sWy_fin {T : sT} {Lw : Nat → sLaw} (hv : vT T Lw) {pr : Nat → Nat} {goal : Nat} {d : Nat → Nat} (hd : isD T pr goal d) (hp1 : ∀ k, k < T 0 1 → 1 ≤ pr k) : ∀ (n p : Nat), d p < INF → ∀ k ∈ sWy T pr d goal n p, pr k < INF := by
  intro n
  induction n with
  | zero => intro p _ k hk; simp [sWy] at hk
  | succ n ih =>
    intro p hI k hk
    by_cases hg : p = goal
    · unfold sWy at hk; rw [if_pos hg] at hk; cases hk
    · obtain ⟨k', o, e1, hk', ho, h3, h4, -⟩ := way_next hv hd hp1 hg hI
      have eW : sWy T pr d goal (n + 1) p = k' :: sWy T pr d goal n o := by
        conv => lhs; unfold sWy
        rw [if_neg hg, e1, ho]; rfl
      rw [eW] at hk
      rcases List.mem_cons.mp hk with rfl | hk
      · omega
      · exact ih o (by omega) k hk
theorem sWl_up {T : sT} {Lw : Nat → sLaw} (hv : vT T Lw) {lots od : Int32} {S : sR} {a : Nat} (h : sDs T Lw lots od S a (T 5 a) < INF) : ∀ k ∈ sWl T Lw lots od S a, ¬ sDn T Lw S k := by
  intro k hk hd
  have hp1 : ∀ k, k < T 0 1 → 1 ≤ sPr T Lw S lots od a k := fun k hk => (sPr_OK hv k hk).1
  have := sWy_fin hv (sD_is hv (goal := T 6 a) hp1) hp1 8 _ h k hk
  have hk' := (sWl_in hv h).2 k hk
  have h3 := hv.2.1 k hk'
  rw [(sPr_in (Lw := Lw) (S := S) (lots := lots) (od := od) (a := a) ⟨h3.2.2.2.1, h3.2.2.2.2.1⟩).2.2.1 hd] at this
  omega
