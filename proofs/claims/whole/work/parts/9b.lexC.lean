/-! THE CLASS cuts its tape -/
def kwC (μ : jM) : Prop := ∀ i, i < 23 → ∀ w, wrds[i]? = some w → μ.2.1 8 i = lN (en 32 w)
def tkC (μ : jM) (Y : List Int32) (i : Nat) : Prop := μ.1 5 i = kC (kd Y i) ∧ μ.1 6 i = nI (pl Y i) ∧ (kd Y i = 1 → μ.2.1 7 i = lN (en 32 (nm Y i))) ∧ (kd Y i = 2 → μ.2.1 7 i = lN (vl Y i))
def lexC (μ : jM) (Y : List Int32) : Prop := ∀ i, i ≤ 400 → gd Y i → tkC μ Y i
theorem b01_0 {b : Bool} : b01 b = 0 ↔ b = false := by cases b <;> decide
theorem tC_at {μ : jM} {Y : List Int32} (h : tapeC μ Y) {i : Nat} (hi : i < Y.length) : μ.1 2 i = yb Y i := h.2.2 i _ (yb_of hi)
theorem updL_at {f : Nat → Int64} {i : Nat} {x : Int64} : vp_updL f i x i = x := by simp [vp_updL]
theorem updL_ne {f : Nat → Int64} {i j : Nat} {x : Int64} (h : j ≠ i) : vp_updL f i x j = f j := by simp [vp_updL, h]
theorem lv_64 {b : Int32} (h : isL b = true) : Int32.toInt64 ((b - 97) + 1) = lN (lv b) := by
  obtain ⟨h1, h2, h3⟩ := lv_in h
  have hk : ∀ k, k < 27 → 1 ≤ k → Int32.toInt64 ((nI (k + 96) - 97) + 1) = lN k := by decide +kernel
  have := hk (lv b) (by omega) h1
  rw [← h3] at this; exact this
theorem dg_64 {b : Int32} (h : isDg b = true) : Int32.toInt64 (b - 48) = lN (b.toNatClampNeg - 48) := by
  obtain ⟨h1, h3⟩ := dg_in h
  have hk : ∀ k, k < 10 → Int32.toInt64 (nI (k + 48) - 48) = lN k := by decide +kernel
  have := hk (b.toNatClampNeg - 48) (by omega)
  rw [← h3] at this; exact this
section LexC
variable {l : Launch} {G : jG}
theorem c_X7_isBlank (hG : gGG G) {μ : jM} (hP : gPP μ) (x : Int32) : jC0 l mX7_isBlank 0 G [.int x] μ (pI fun v μ' => v = b01 (isBl x) ∧ μ' = μ) := by
  refine jC0.of' (ls := [.int x]) rfl rfl rfl (fun _ _ => Nat.le_of_ble_eq_true rfl) ?_
  refine b_X7_isBlank_0 hG hP ?_ ?_ ?_ ?_ ?_
  · intro h; rw [h]; exact ⟨rfl, rfl⟩
  · intro _ h; rw [h]; exact ⟨rfl, rfl⟩
  · intro _ _ h; rw [h]; exact ⟨rfl, rfl⟩
  · intro h1 h2 h3 h4; refine ⟨?_, rfl⟩; unfold isBl; simp [h1, h2, h3, h4, b01]
  · intro _ _ _ h; rw [h]; exact ⟨rfl, rfl⟩
theorem c_X7_isLetter (hG : gGG G) {μ : jM} (hP : gPP μ) (x : Int32) : jC0 l mX7_isLetter 0 G [.int x] μ (pI fun v μ' => v = b01 (isL x) ∧ μ' = μ) := by
  refine jC0.of' (ls := [.int x]) rfl rfl rfl (fun _ _ => Nat.le_of_ble_eq_true rfl) ?_
  refine b_X7_isLetter_0 hG hP ?_ ?_ ?_
  · intro h; refine ⟨?_, rfl⟩; unfold isL; simp [h, b01]
  · intro h1 h2; refine ⟨?_, rfl⟩; unfold isL; rw [decide_eq_true h1, decide_eq_false (fun z => z h2)]; rfl
  · intro h1 h2; refine ⟨?_, rfl⟩; unfold isL; rw [decide_eq_true h1, decide_eq_true h2]; rfl
theorem c_X7_isDigit (hG : gGG G) {μ : jM} (hP : gPP μ) (x : Int32) : jC0 l mX7_isDigit 0 G [.int x] μ (pI fun v μ' => v = b01 (isDg x) ∧ μ' = μ) := by
  refine jC0.of' (ls := [.int x]) rfl rfl rfl (fun _ _ => Nat.le_of_ble_eq_true rfl) ?_
  refine b_X7_isDigit_0 hG hP ?_ ?_ ?_
  · intro h; refine ⟨?_, rfl⟩; unfold isDg; simp [h, b01]
  · intro h1 h2; refine ⟨?_, rfl⟩; unfold isDg; rw [decide_eq_true h1, decide_eq_false (fun z => z h2)]; rfl
  · intro h1 h2; refine ⟨?_, rfl⟩; unfold isDg; rw [decide_eq_true h1, decide_eq_true h2]; rfl
theorem c_X7_isSign (hG : gGG G) {μ : jM} (hP : gPP μ) (x : Int32) : jC0 l mX7_isSign 0 G [.int x] μ (pI fun v μ' => v = b01 (decide (sgn x ≠ 3)) ∧ μ' = μ) := by
  refine jC0.of' (ls := [.int x]) rfl rfl rfl (fun _ _ => Nat.le_of_ble_eq_true rfl) ?_
  refine b_X7_isSign_0 hG hP ?_ ?_ ?_ ?_ ?_ ?_ ?_ ?_ ?_ ?_ ?_ ?_ ?_ ?_ ?_ ?_ ?_ ?_ ?_ ?_ ?_ ?_ ?_
  all_goals intros
  all_goals refine ⟨?_, rfl⟩
  all_goals first | (rename_i h; subst h; rfl) | (simp [sgn, b01, *])
theorem c_X7_withLetter (hG : gGG G) {μ : jM} (hP : gPP μ) (a : Nat) (x : Int32) (hx : isL x = true) : jC0 l mX7_withLetter 0 G [.long (lN a), .int x] μ (pJ fun v μ' => v = lN (a * 32 + lv x) ∧ μ' = μ) := by
  refine jC0.of' (ls := [.long (lN a), .null, .int x]) rfl rfl rfl (fun _ _ => Nat.le_of_ble_eq_true rfl) ?_
  refine b_X7_withLetter_0 hG hP ⟨?_, rfl⟩
  rw [lv_64 hx, show (32 : Int64) = lN 32 from rfl, lN_mul, lN_add]
theorem c_X7_afterBlanks (hG : gGG G) {μ : jM} (hP : gPP μ) {Y : List Int32} (ht : tapeC μ Y) {i : Nat} (hi : i ≤ Y.length) : jC0 l mX7_afterBlanks 1 G [.ref 1, .int (nI i)] μ (pI fun v μ' => v = nI (bl Y i) ∧ μ' = μ) := by
  refine jC0.of' (ls := [.ref 1, .int (nI i), .null]) rfl rfl rfl (fun _ _ => Nat.le_of_ble_eq_true rfl) ?_
  refine b_X7_afterBlanks_0 hG hP ?_
  have h2 := ht.2.1
  have loop : ∀ (q i : Nat), i + q = Y.length → J l mX7_afterBlanks (jZ0 1 G (pI fun v μ' => v = nI (bl Y i) ∧ μ' = μ)) G 0 0 2 [.ref 1, .null, .int (nI i)] [] μ := by
    intro q
    induction q with
    | zero =>
      intro i hq
      have hle : μ.1 1 1 ≤ nI i := by rw [ht.1]; exact nI_le (by omega) (by omega)
      refine b_X7_afterBlanks_2 (ψ1 := fun _ _ => True) hG hP (fun _ => ⟨?_, rfl⟩) (fun h => absurd hle h) (fun h => absurd hle h) (fun h => absurd hle h)
      unfold bl; rw [run_n (by omega)]; rfl
    | succ q ih =>
      intro i hq
      have hlt : ¬ μ.1 1 1 ≤ nI i := by rw [ht.1]; exact nI_ge (by omega) (by omega)
      refine b_X7_afterBlanks_2 hG hP (fun h => absurd h hlt) (fun _ => vp_in_nI (by omega) (by decide)) (fun _ => by rw [nI_clamp (by omega), tC_at ht (by omega)]; exact c_X7_isBlank hG hP _) (fun _ v μ' h => ?_)
      obtain ⟨rfl, rfl⟩ := h
      refine b_X7_afterBlanks_19 hG hP (fun h => ⟨?_, rfl⟩) (fun h => ?_)
      · rw [b01_0] at h
        unfold bl; rw [run_n (fun z => by rw [h] at z; cases z.2)]; rfl
      · rw [b01_0, Bool.not_eq_false] at h
        rw [nI_inc, show bl Y i = bl Y (i + 1) from by unfold bl; rw [run_s (by omega) h, List.length_cons]; omega]
        exact ih (i + 1) (by omega)
  exact loop (Y.length - i) i (by omega)
theorem c_X7_kindOf (hG : gGG G) {μ : jM} (hP : gPP μ) (hk : kwC μ) {w : List Nat} (hw : okW w) : jC0 l mX7_kindOf 0 G [.ref 4, .long (lN (en 32 w))] μ (pI fun v μ' => v = kC (kwd w) ∧ μ' = μ) := by
  refine jC0.of' (ls := [.ref 4, .long (lN (en 32 w)), .null, .null]) rfl rfl rfl (fun _ _ => Nat.le_of_ble_eq_true rfl) ?_
  refine b_X7_kindOf_0 hG hP ?_
  have loop : ∀ i, i ≤ 23 → (∀ j, j < i → ¬ wrds[j]? = some w) → J l mX7_kindOf (jZ0 0 G (pI fun v μ' => v = kC (kwd w) ∧ μ' = μ)) G 0 0 2 [.ref 4, .long (lN (en 32 w)), .null, .int (nI i)] [] μ := by
    refine up_loop 23 ?_ (fun i hi ih => ?_)
    · intro hall
      have hle : (23 : Int32) ≤ nI 23 := by decide
      refine b_X7_kindOf_2 hG hP (fun _ => ⟨?_, rfl⟩) (fun h => absurd hle h) (fun h => absurd hle h) (fun h => absurd hle h)
      unfold kwd; rw [kwU_no 23 hall]; rfl
    · intro hall
      have hlt : ¬ (23 : Int32) ≤ nI i := nI_ge (b := 23) (by omega) (by omega)
      obtain ⟨v, hv, okv, -⟩ := wrds_ok i hi
      have e1 : μ.2.1 8 (nI i).toNatClampNeg = lN (en 32 v) := by rw [nI_clamp (by omega)]; exact hk i hi v hv
      refine b_X7_kindOf_2 hG hP (fun h => absurd h hlt) (fun _ => vp_in_nI hi (by decide)) (fun _ h => ?_) (fun _ h => ⟨?_, rfl⟩)
      · rw [e1, lgc0, nm_inj (by decide) (by decide) okv hw] at h
        rw [nI_inc]
        refine ih (fun j hj z => ?_)
        by_cases e : j = i
        · rw [e, hv] at z; exact h (Option.some.inj z)
        · exact hall j (by omega) z
      · rw [e1, lgc0, nm_inj (by decide) (by decide) okv hw] at h
        rw [h] at hv
        unfold kwd
        rw [kwU_at hv 23 hi (Nat.le_refl _)]
        unfold kC
        rw [if_pos (by omega), show (128 : Int32) = nI 128 from rfl, nI_add]
        congr 1; omega
  exact loop 0 (by decide) (fun j hj => by omega)
theorem c_X7_scanLetters (hG : gGG G) {μ : jM} (hP : gPP μ) {Y : List Int32} (ht : tapeC μ Y) (hk : kwC μ) {p r : Nat} (hp : p ≤ Y.length) (hr : r ≤ 400) : jC0 l mX7_scanLetters 1 G [.ref 4, .ref 1, .int (nI p), .int (nI r)] μ (pI fun v μ' => v = nI (p + (run isL Y p).length) ∧ μ' = wI (wL μ 7 r (lN (en 32 ((run isL Y p).map lv)))) 5 r (kC (if 8 < (run isL Y p).length then 3 else kwd ((run isL Y p).map lv)))) := by
  refine jC0.of' (ls := [.ref 4, .ref 1, .int (nI p), .int (nI r), .null, .null, .null]) rfl rfl rfl (fun _ _ => Nat.le_of_ble_eq_true rfl) ?_
  refine b_X7_scanLetters_0 hG hP ?_
  have h2 := ht.2.1
  have hle := run_le (P := isL) hp
  have okw : (run isL Y p).length ≤ 8 → okW ((run isL Y p).map lv) := fun h => ⟨by rw [List.length_map]; exact h, fun d hd => by
    obtain ⟨b, hb, rfl⟩ := List.mem_map.mp hd
    have := lv_in (run_all b hb)
    exact ⟨this.1, this.2.1⟩⟩
  obtain ⟨φ, eφ⟩ : ∃ φ : Int32 → jM → Prop, φ = (fun v μ' => v = nI (p + (run isL Y p).length) ∧ μ' = wI (wL μ 7 r (lN (en 32 ((run isL Y p).map lv)))) 5 r (kC (if 8 < (run isL Y p).length then 3 else kwd ((run isL Y p).map lv)))) := ⟨_, rfl⟩
  rw [← eφ]
  have cr : (nI r).toNatClampNeg = r := nI_clamp (by omega)
  have c8 : ∀ n, p + n ≤ Y.length → ((nI (p + n) - nI p ≤ 8) ↔ n ≤ 8) := fun n hn => by
    rw [nI_subN (by omega), Nat.add_sub_cancel_left, i32_le, nI_toInt (by omega)]
    have : (8 : Int32).toInt = 8 := rfl
    omega
  have f1 : ∀ j a, j = (run isL Y p).length → a = en 32 ((run isL Y p).map lv) → nI (p + j) - nI p ≤ 8 → jC0 l mX7_kindOf 0 G [.ref 4, .long (lN a)] (wL μ 7 (nI r).toNatClampNeg (lN a)) (pI fun v μ' => v = kC (kwd ((run isL Y p).map lv)) ∧ μ' = wL μ 7 (nI r).toNatClampNeg (lN a)) := fun j a hj ha h => by
    rw [ha]
    rw [hj, c8 _ hle] at h
    exact c_X7_kindOf (μ := wL μ 7 (nI r).toNatClampNeg (lN (en 32 ((run isL Y p).map lv)))) hG (gPP_of (μ := μ) rfl hP) (fun i hi w hw => (congrFun (wL_ne (μ := μ) (by decide)) i).trans (hk i hi w hw)) (okw h)
  have f2 : ∀ j a, j = (run isL Y p).length → a = en 32 ((run isL Y p).map lv) → nI (p + j) - nI p ≤ 8 → ∀ v μ', (v = kC (kwd ((run isL Y p).map lv)) ∧ μ' = wL μ 7 (nI r).toNatClampNeg (lN a)) → J l mX7_scanLetters (jZ0 1 G (pI φ)) G 0 0 80 [.null, .null, .null, .null, .int (nI (p + j)), .null, .null] [.int v, .int (nI r), .ref 5] μ' := fun j a hj ha h v μ' hh => by
    obtain ⟨rfl, rfl⟩ := hh
    refine b_X7_scanLetters_80 hG (gPP_of (μ := μ) rfl hP) (vp_in_nI (by omega) (by decide)) ?_
    rw [hj, c8 _ hle] at h
    rw [eφ]
    refine ⟨by rw [hj], ?_⟩
    rw [cr, ha, if_neg (by omega)]
  have f3 : ∀ j a, j = (run isL Y p).length → a = en 32 ((run isL Y p).map lv) → ¬ nI (p + j) - nI p ≤ 8 → φ (nI (p + j)) (wI (wL μ 7 (nI r).toNatClampNeg (lN a)) 5 (nI r).toNatClampNeg 1) := fun j a hj ha h => by
    rw [hj, c8 _ hle] at h
    rw [eφ]
    refine ⟨by rw [hj], ?_⟩
    rw [cr, ha, if_pos (by omega)]; rfl
  have loop : ∀ (q j a : Nat), p + j + q = Y.length → j + (run isL Y (p + j)).length = (run isL Y p).length → enB 32 a ((run isL Y (p + j)).map lv) = en 32 ((run isL Y p).map lv) → J l mX7_scanLetters (jZ0 1 G (pI φ)) G 0 0 6 [.ref 4, .ref 1, .int (nI p), .int (nI r), .int (nI (p + j)), .long (lN a), .null] [] μ := by
    intro q
    induction q with
    | zero =>
      intro j a hq hl ha
      have hle : μ.1 1 1 ≤ nI (p + j) := by rw [ht.1]; exact nI_le (by omega) (by omega)
      rw [run_n (by omega)] at hl ha
      exact b_X7_scanLetters_6 (ψ2 := fun _ _ => True) hG hP (fun _ => vp_in_nI (by omega) (by decide)) (fun _ => f1 j a hl ha) (fun _ => f2 j a hl ha) (fun _ => f3 j a hl ha) (fun h => absurd hle h) (fun h => absurd hle h) (fun h => absurd hle h)
    | succ q ih =>
      intro j a hq hl ha
      have hlt : ¬ μ.1 1 1 ≤ nI (p + j) := by rw [ht.1]; exact nI_ge (by omega) (by omega)
      have cj : (nI (p + j)).toNatClampNeg = p + j := nI_clamp (by omega)
      refine b_X7_scanLetters_6 (ψ0 := fun _ _ => True) hG hP (fun h => absurd h hlt) (fun h => absurd h hlt) (fun h => absurd h hlt) (fun h => absurd h hlt) (fun _ => vp_in_nI (by omega) (by decide)) (fun _ => by rw [cj, tC_at ht (by omega)]; exact c_X7_isLetter hG hP _) (fun _ v μ' h => ?_)
      obtain ⟨rfl, rfl⟩ := h
      by_cases hL : isL (yb Y (p + j)) = true
      · have h0 : ¬ b01 (isL (yb Y (p + j))) = 0 := fun z => by rw [b01_0, hL] at z; cases z
        refine b_X7_scanLetters_25 (ψ0 := fun _ _ => True) hG hP (fun h => absurd h h0) (fun h => absurd h h0) (fun h => absurd h h0) (fun h => absurd h h0) (fun _ => vp_in_nI (by omega) (by decide)) (fun _ => by rw [cj, tC_at ht (by omega)]; exact c_X7_withLetter hG hP a _ hL) (fun _ v μ' h => ?_)
        obtain ⟨rfl, rfl⟩ := h
        refine b_X7_scanLetters_40 hG hP ?_
        rw [nI_inc]
        rw [run_s (by omega) hL] at hl ha
        exact ih (j + 1) (a * 32 + lv (yb Y (p + j))) (by omega) (by rw [List.length_cons] at hl; rw [← Nat.add_assoc]; omega) ha
      · have h0 : b01 (isL (yb Y (p + j))) = 0 := by rw [b01_0]; simpa using hL
        rw [run_n (fun z => hL z.2)] at hl ha
        exact b_X7_scanLetters_25 (ψ2 := fun _ _ => True) hG hP (fun _ => vp_in_nI (by omega) (by decide)) (fun _ => f1 j a hl ha) (fun _ => f2 j a hl ha) (fun _ => f3 j a hl ha) (fun h => absurd h0 h) (fun h => absurd h0 h) (fun h => absurd h0 h)
  exact loop (Y.length - p) 0 0 (by omega) (by rw [Nat.add_zero, Nat.zero_add]) rfl
theorem c_X7_scanDigits (hG : gGG G) {μ : jM} (hP : gPP μ) {Y : List Int32} (ht : tapeC μ Y) {p r : Nat} (hp : p ≤ Y.length) (hr : r ≤ 400) : jC0 l mX7_scanDigits 1 G [.ref 4, .ref 1, .int (nI p), .int (nI r)] μ (pI fun v μ' => v = nI (p + (run isDg Y p).length) ∧ μ' = wI (wL μ 7 r (lN (dvA 0 (run isDg Y p)))) 5 r (kC (if 4 < (run isDg Y p).length then 3 else 2))) := by
  refine jC0.of' (ls := [.ref 4, .ref 1, .int (nI p), .int (nI r), .null, .null, .null]) rfl rfl rfl (fun _ _ => Nat.le_of_ble_eq_true rfl) ?_
  refine b_X7_scanDigits_0 hG hP ?_
  have h2 := ht.2.1
  have hle := run_le (P := isDg) hp
  obtain ⟨φ, eφ⟩ : ∃ φ : Int32 → jM → Prop, φ = (fun v μ' => v = nI (p + (run isDg Y p).length) ∧ μ' = wI (wL μ 7 r (lN (dvA 0 (run isDg Y p)))) 5 r (kC (if 4 < (run isDg Y p).length then 3 else 2))) := ⟨_, rfl⟩
  rw [← eφ]
  have cr : (nI r).toNatClampNeg = r := nI_clamp (by omega)
  have c8 : ∀ n, p + n ≤ Y.length → ((nI (p + n) - nI p ≤ 4) ↔ n ≤ 4) := fun n hn => by
    rw [nI_subN (by omega), Nat.add_sub_cancel_left, i32_le, nI_toInt (by omega)]
    have : (4 : Int32).toInt = 4 := rfl
    omega
  have f2 : ∀ j a, j = (run isDg Y p).length → a = dvA 0 (run isDg Y p) → nI (p + j) - nI p ≤ 4 → φ (nI (p + j)) (wI (wL μ 7 (nI r).toNatClampNeg (lN a)) 5 (nI r).toNatClampNeg 3) := fun j a hj ha h => by
    rw [hj, c8 _ hle] at h
    rw [eφ]
    refine ⟨by rw [hj], ?_⟩
    rw [cr, ha, if_neg (by omega)]; rfl
  have f3 : ∀ j a, j = (run isDg Y p).length → a = dvA 0 (run isDg Y p) → ¬ nI (p + j) - nI p ≤ 4 → φ (nI (p + j)) (wI (wL μ 7 (nI r).toNatClampNeg (lN a)) 5 (nI r).toNatClampNeg 1) := fun j a hj ha h => by
    rw [hj, c8 _ hle] at h
    rw [eφ]
    refine ⟨by rw [hj], ?_⟩
    rw [cr, ha, if_pos (by omega)]; rfl
  have loop : ∀ (q j a : Nat), p + j + q = Y.length → j + (run isDg Y (p + j)).length = (run isDg Y p).length → dvA a (run isDg Y (p + j)) = dvA 0 (run isDg Y p) → J l mX7_scanDigits (jZ0 1 G (pI φ)) G 0 0 6 [.ref 4, .ref 1, .int (nI p), .int (nI r), .int (nI (p + j)), .long (lN a), .null] [] μ := by
    intro q
    induction q with
    | zero =>
      intro j a hq hl ha
      have hle : μ.1 1 1 ≤ nI (p + j) := by rw [ht.1]; exact nI_le (by omega) (by omega)
      rw [run_n (by omega)] at hl ha
      exact b_X7_scanDigits_6 (ψ2 := fun _ _ => True) hG hP (fun _ => vp_in_nI (by omega) (by decide)) (fun _ => f2 j a hl ha) (fun _ => f3 j a hl ha) (fun h => absurd hle h) (fun h => absurd hle h) (fun h => absurd hle h)
    | succ q ih =>
      intro j a hq hl ha
      have hlt : ¬ μ.1 1 1 ≤ nI (p + j) := by rw [ht.1]; exact nI_ge (by omega) (by omega)
      have cj : (nI (p + j)).toNatClampNeg = p + j := nI_clamp (by omega)
      refine b_X7_scanDigits_6 hG hP (fun h => absurd h hlt) (fun h => absurd h hlt) (fun h => absurd h hlt) (fun _ => vp_in_nI (by omega) (by decide)) (fun _ => by rw [cj, tC_at ht (by omega)]; exact c_X7_isDigit hG hP _) (fun _ v μ' h => ?_)
      obtain ⟨rfl, rfl⟩ := h
      by_cases hL : isDg (yb Y (p + j)) = true
      · have h0 : ¬ b01 (isDg (yb Y (p + j))) = 0 := fun z => by rw [b01_0, hL] at z; cases z
        refine b_X7_scanDigits_25 hG hP (fun h => absurd h h0) (fun h => absurd h h0) (fun h => absurd h h0) (fun _ => vp_in_nI (by omega) (by decide)) (fun _ => ?_)
        rw [nI_inc, cj, tC_at ht (by omega), dg_64 hL, show (10 : Int64) = lN 10 from rfl, lN_mul, lN_add]
        rw [run_s (by omega) hL] at hl ha
        exact ih (j + 1) (a * 10 + ((yb Y (p + j)).toNatClampNeg - 48)) (by omega) (by rw [List.length_cons] at hl; rw [← Nat.add_assoc]; omega) ha
      · have h0 : b01 (isDg (yb Y (p + j))) = 0 := by rw [b01_0]; simpa using hL
        rw [run_n (fun z => hL z.2)] at hl ha
        exact b_X7_scanDigits_25 hG hP (fun _ => vp_in_nI (by omega) (by decide)) (fun _ => f2 j a hl ha) (fun _ => f3 j a hl ha) (fun h => absurd h0 h) (fun h => absurd h0 h)
  exact loop (Y.length - p) 0 0 (by omega) (by rw [Nat.add_zero, Nat.zero_add]) rfl
/-- what one cut leaves in row r -/
def t1C (Y : List Int32) (p r : Nat) (μ μ' : jM) : Prop := cOff (fun c => c = 5 ∨ c = 6) (fun c => c = 7) μ μ' ∧ μ'.1 5 = upd (μ.1 5) r (kC (tkK Y p)) ∧ μ'.1 6 = upd (μ.1 6) r (nI p) ∧ (∀ j, j ≠ r → μ'.2.1 7 j = μ.2.1 7 j) ∧ (tkK Y p = 1 → μ'.2.1 7 r = lN (en 32 ((run isL Y p).map lv))) ∧ (tkK Y p = 2 → μ'.2.1 7 r = lN (dvA 0 (run isDg Y p)))
theorem t1C_mk {Y : List Int32} {p r : Nat} {μ : jM} {x : Int64} (h1 : tkK Y p = 1 → x = lN (en 32 ((run isL Y p).map lv))) (h2 : tkK Y p = 2 → x = lN (dvA 0 (run isDg Y p))) : t1C Y p r μ (wI (wL (wL (wI μ 6 r (nI p)) 7 r 0) 7 r x) 5 r (kC (tkK Y p))) := by
  refine ⟨?_, ?_, ?_, fun j hj => ?_, fun h => ?_, fun h => ?_⟩
  · refine cOff.trans (μ1 := wI μ 6 r (nI p)) (cOff_wI (Or.inr rfl)) (cOff.trans (μ1 := wL (wI μ 6 r (nI p)) 7 r 0) (cOff_wL rfl) (cOff.trans (μ1 := wL (wL (wI μ 6 r (nI p)) 7 r 0) 7 r x) (cOff_wL rfl) (cOff_wI (Or.inl rfl))))
  · rw [wI_eq, wL_1, wL_1, wI_ne (by decide)]
  · rw [wI_ne (by decide), wL_1, wL_1, wI_eq]
  · show (wL _ 7 r x).2.1 7 j = _; rw [wL_eq, updL_ne hj, wL_eq, updL_ne hj]; rfl
  · show (wL _ 7 r x).2.1 7 r = _; rw [wL_eq, updL_at, h1 h]
  · show (wL _ 7 r x).2.1 7 r = _; rw [wL_eq, updL_at, h2 h]
theorem wL_wL {μ : jM} {a i : Nat} {x y : Int64} : wL (wL μ a i x) a i y = wL μ a i y := by
  simp only [wL]
  congr 1; congr 1; funext c
  by_cases h : c = a
  · subst h; simp only [if_true]; funext j; by_cases h : j = i <;> simp [vp_updL, h]
  · simp [h]
theorem c_X7_scanOne (hG : gGG G) {μ : jM} (hP : gPP μ) {Y : List Int32} (ht : tapeC μ Y) (hk : kwC μ) {p r : Nat} (hp : p ≤ Y.length) (hr : r ≤ 400) : jC0 l mX7_scanOne 2 G [.ref 4, .ref 1, .int (nI p), .int (nI r)] μ (pI fun v μ' => v = nI (p + tkN Y p) ∧ t1C Y p r μ μ') := by
  refine jC0.of' (ls := [.ref 4, .ref 1, .int (nI p), .int (nI r), .null]) rfl rfl rfl (fun _ _ => Nat.le_of_ble_eq_true rfl) ?_
  have h2 := ht.2.1
  have cr : (nI r).toNatClampNeg = r := nI_clamp (by omega)
  have ir : vp_in (nI r) 401 := vp_in_nI (by omega) (by decide)
  have P1 : gPP (wL (wI μ 6 r (nI p)) 7 r 0) := gPP_of (μ := μ) rfl hP
  have t1 : tapeC (wL (wI μ 6 r (nI p)) 7 r 0) Y := by
    unfold tapeC at ht ⊢
    rw [wL_1, wI_ne (by decide), wI_ne (by decide)]; exact ht
  have k1 : kwC (wL (wI μ 6 r (nI p)) 7 r 0) := fun i hi w hw => (congrFun (wL_ne (μ := wI μ 6 r (nI p)) (by decide)) i).trans (hk i hi w hw)
  by_cases hlt : p < Y.length
  · have c1 : nI p < μ.1 1 1 := by rw [ht.1, i32_lt, nI_toInt (by omega), nI_toInt (by omega)]; omega
    refine b_X7_scanOne_0 hG hP ir (fun _ => vp_in_nI (by omega) (by decide)) (fun _ => by rw [nI_clamp (show p < 2 ^ 31 by omega), tC_at ht hlt, cr]; exact c_X7_isLetter hG P1 _) (fun _ v μ' h => ?_) (fun h => absurd c1 h)
    obtain ⟨rfl, rfl⟩ := h
    rw [nI_clamp (show p < 2 ^ 31 by omega), tC_at ht hlt]
    by_cases hL : isL (yb Y p) = true
    · have h0 : ¬ b01 (isL (yb Y p)) = 0 := fun z => by rw [b01_0, hL] at z; cases z
      refine b_X7_scanOne_44 (ψ0 := fun _ _ => True) hG P1 (fun h => absurd h h0) (fun h => absurd h h0) (fun _ => c_X7_scanLetters hG P1 t1 k1 hp hr) (fun _ v μ' h => ?_)
      obtain ⟨rfl, rfl⟩ := h
      have eK : tkK Y p = if 8 < (run isL Y p).length then 3 else kwd ((run isL Y p).map lv) := by unfold tkK; rw [if_pos hlt, if_pos hL]
      refine b_X7_scanOne_54 hG (gPP_of (μ := μ) rfl hP) ⟨by unfold tkN; rw [if_pos hlt, if_pos hL], ?_⟩
      rw [← eK]
      refine t1C_mk (fun _ => rfl) (fun h => ?_)
      exfalso
      rw [eK] at h
      split at h
      · cases h
      · rcases kwU_in ((run isL Y p).map lv) 23 (by decide) with h3 | h3 <;> (unfold kwd at h; omega)
    · have h0 : b01 (isL (yb Y p)) = 0 := by rw [b01_0]; simpa using hL
      refine b_X7_scanOne_44 (ψ1 := fun _ _ => True) hG P1 (fun _ => c_X7_isDigit hG P1 _) (fun _ v μ' h => ?_) (fun h => absurd h0 h) (fun h => absurd h0 h)
      obtain ⟨rfl, rfl⟩ := h
      by_cases hD : isDg (yb Y p) = true
      · have h0 : ¬ b01 (isDg (yb Y p)) = 0 := fun z => by rw [b01_0, hD] at z; cases z
        refine b_X7_scanOne_60 (ψ0 := fun _ _ => True) hG P1 (fun h => absurd h h0) (fun h => absurd h h0) (fun _ => c_X7_scanDigits hG P1 t1 hp hr) (fun _ v μ' h => ?_)
        obtain ⟨rfl, rfl⟩ := h
        have eK : tkK Y p = if 4 < (run isDg Y p).length then 3 else 2 := by unfold tkK; rw [if_pos hlt, if_neg hL, if_pos hD]
        refine b_X7_scanOne_70 hG (gPP_of (μ := μ) rfl hP) ⟨by unfold tkN; rw [if_pos hlt, if_neg hL, if_pos hD], ?_⟩
        rw [← eK]
        refine t1C_mk (fun h => ?_) (fun _ => rfl)
        exfalso
        rw [eK] at h
        split at h <;> cases h
      · have h0 : b01 (isDg (yb Y p)) = 0 := by rw [b01_0]; simpa using hD
        have eK : tkK Y p = sgn (yb Y p) := by unfold tkK; rw [if_pos hlt, if_neg hL, if_neg hD]
        have s3 := sgn_in (yb Y p)
        have fin : ∀ z : Int32, z = kC (sgn (yb Y p)) → (nI p + 1 = nI (p + tkN Y p) ∧ t1C Y p r μ (wI (wL (wI μ 6 r (nI p)) 7 r 0) 5 r z)) := fun z hz => by
          refine ⟨by unfold tkN; rw [if_pos hlt, if_neg hL, if_neg hD, nI_inc], ?_⟩
          rw [hz, ← eK, ← wL_wL (x := 0) (y := 0)]
          exact t1C_mk (fun h => by omega) (fun h => by omega)
        refine b_X7_scanOne_60 (ψ1 := fun _ _ => True) hG P1 (fun _ => c_X7_isSign hG P1 _) (fun _ v μ' h => ?_) (fun h => absurd h0 h) (fun h => absurd h0 h)
        obtain ⟨rfl, rfl⟩ := h
        refine b_X7_scanOne_81 hG P1 (fun _ => ir) (fun h => ?_) (fun _ => ir) (fun h => ?_)
        · rw [cr]
          rw [b01_0, decide_eq_false_iff_not, Decidable.not_not] at h
          exact fin _ (by rw [h]; rfl)
        · rw [cr]
          rw [b01_0, Bool.not_eq_false, decide_eq_true_iff] at h
          refine fin _ ?_
          unfold sgn at h ⊢
          split
          · rename_i e; rw [e]; rfl
          split
          · rename_i e; rw [e]; rfl
          split
          · rename_i e; rw [e]; rfl
          split
          · rename_i e; rw [e]; rfl
          split
          · rename_i e; rw [e]; rfl
          split
          · rename_i e; rw [e]; rfl
          split
          · rename_i e; rw [e]; rfl
          split
          · rename_i e; rw [e]; rfl
          split
          · rename_i e; rw [e]; rfl
          · simp_all
  · have c1 : ¬ nI p < μ.1 1 1 := by rw [ht.1, i32_lt, nI_toInt (by omega), nI_toInt (by omega)]; omega
    have eK : tkK Y p = 0 := by unfold tkK; rw [if_neg hlt]
    refine b_X7_scanOne_0 (ψ0 := fun _ _ => True) hG hP ir (fun h => absurd h c1) (fun h => absurd h c1) (fun h => absurd h c1) (fun _ => ⟨by unfold tkN; rw [if_neg hlt]; rfl, ?_⟩)
    rw [cr, ← wL_wL (x := 0) (y := 0), show (0 : Int32) = kC (tkK Y p) from by rw [eK]; rfl]
    exact t1C_mk (fun h => by rw [eK] at h; cases h) (fun h => by rw [eK] at h; cases h)
theorem c_X7_scan (hG : gGG G) {μ : jM} (hP : gPP μ) {Y : List Int32} (ht : tapeC μ Y) (hk : kwC μ) : jC0 l mX7_scan 3 G [.ref 4, .ref 1] μ (pV fun μ' => lexC μ' Y ∧ cOff (fun c => c = 5 ∨ c = 6) (fun c => c = 7) μ μ') := by
  refine jC0.of' (ls := [.ref 4, .ref 1, .null, .null, .null]) rfl rfl rfl (fun _ _ => Nat.le_of_ble_eq_true rfl) ?_
  refine b_X7_scan_0 hG hP ?_
  have h2 := ht.2.1
  have loop : ∀ (q r : Nat) (μ1 : jM) (x3 : Int32), r + q = 401 → cOff (fun c => c = 5 ∨ c = 6) (fun c => c = 7) μ μ1 → (∀ i, i < r → gd Y i → tkC μ1 Y i) → ((x3 = 1 ∧ gd Y r) ∨ (x3 = 0 ∧ ¬ gd Y r)) → J l mX7_scan (jZ0 3 G (pV fun μ' => lexC μ' Y ∧ cOff (fun c => c = 5 ∨ c = 6) (fun c => c = 7) μ μ')) G 0 0 7 [.ref 4, .ref 1, .int (nI (pos Y r)), .int x3, .int (nI r)] [] μ1 := by
    intro q
    induction q with
    | zero =>
      intro r μ1 x3 hq ho hi _
      have hle : (401 : Int32) ≤ nI r := nI_le (a := 401) (by omega) (by omega)
      exact b_X7_scan_7 (ψ2 := fun _ _ => True) hG (ho.gPP hP) (fun _ => ⟨fun i h => hi i (by omega), ho⟩) (fun h => absurd hle h) (fun h => absurd hle h) (fun h => absurd hle h)
    | succ q ih =>
      intro r μ1 x3 hq ho hi hx
      have P1 := ho.gPP hP
      have hlt : ¬ (401 : Int32) ≤ nI r := nI_ge (b := 401) (by omega) (by omega)
      have t1 : tapeC μ1 Y := by
        unfold tapeC at ht ⊢
        rw [ho.2.1 1 (by decide), ho.2.1 2 (by decide)]; exact ht
      have k1 : kwC μ1 := fun i hi w hw => by rw [ho.2.2 8 (by decide)]; exact hk i hi w hw
      rcases hx with ⟨rfl, hg⟩ | ⟨rfl, hg⟩
      · refine b_X7_scan_7 hG P1 (fun h => absurd h hlt) (fun _ h => absurd h (by decide)) (fun _ _ => c_X7_afterBlanks hG P1 t1 (pos_le r)) (fun _ _ v μ' h => ?_)
        obtain ⟨rfl, rfl⟩ := h
        refine b_X7_scan_26 hG P1 (c_X7_scanOne hG P1 t1 k1 (p := pl Y r) pl_le (by omega)) (fun v μ' h => ?_)
        obtain ⟨rfl, a1, a2, a3, a4, a5, a6⟩ := h
        have P2 := a1.gPP P1
        have e5 : μ'.1 5 r = kC (kd Y r) := by rw [a2, upd_at]; rfl
        have hi' : ∀ i, i < r + 1 → gd Y i → tkC μ' Y i := fun i h1 h2 => by
          by_cases e : i = r
          · subst e
            exact ⟨e5, by rw [a3, upd_at], a5, a6⟩
          · have := hi i (by omega) h2
            unfold tkC at this ⊢
            rw [a2, a3, upd_ne e, upd_ne e, a4 i e]; exact this
        have gs : gd Y (r + 1) ↔ (kd Y r ≠ 0 ∧ kd Y r ≠ 3) := ⟨fun h => h r (by omega), fun h j hj => by
          by_cases e : j = r
          · rw [e]; exact h
          · exact hg j (by omega)⟩
        have cr : (nI r).toNatClampNeg = r := nI_clamp (by omega)
        refine b_X7_scan_31 hG P2 (vp_in_nI (by omega) (by decide)) (fun h => ?_) (fun _ h => ?_) (fun h1 h2 => ?_)
        · rw [cr, e5] at h
          rw [nI_inc]
          have : kd Y r = 0 := kC_inj _ kd_in 0 (by decide) h
          exact ih (r + 1) μ' 0 (by omega) (ho.trans a1) hi' (Or.inr ⟨rfl, fun z => (gs.mp z).1 this⟩)
        · rw [cr, e5] at h
          rw [nI_inc]
          have : kd Y r = 3 := kC_inj _ kd_in 3 (by decide) h
          exact ih (r + 1) μ' 0 (by omega) (ho.trans a1) hi' (Or.inr ⟨rfl, fun z => (gs.mp z).2 this⟩)
        · rw [cr, e5] at h1 h2
          rw [nI_inc]
          exact ih (r + 1) μ' 1 (by omega) (ho.trans a1) hi' (Or.inl ⟨rfl, gs.mpr ⟨fun z => h1 (by rw [z]; rfl), fun z => h2 (by rw [z]; rfl)⟩⟩)
      · refine b_X7_scan_7 (ψ2 := fun _ _ => True) hG P1 (fun h => absurd h hlt) (fun _ _ => ⟨fun i h1 h2 => ?_, ho⟩) (fun _ h => absurd rfl h) (fun _ h => absurd rfl h)
        by_cases e : i < r
        · exact hi i e h2
        · exact absurd (fun j hj => h2 j (by omega)) hg
  exact loop 401 0 μ 1 rfl cOff.refl (fun i hi => by omega) (Or.inl ⟨rfl, fun j hj => by omega⟩)
end LexC
