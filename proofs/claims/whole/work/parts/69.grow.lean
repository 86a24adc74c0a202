/-! NIGHTS: on what they hang, what grows -/
theorem sPr_od {T : sT} {Lw : Nat → sLaw} {S : sR} {lots od od' : Int32} {a : Nat} (h : ∀ k, sRt S od k = sRt S od' k) : sPr T Lw S lots od a = sPr T Lw S lots od' a := by
  funext k; unfold sPr sCost sOwes sFears vrA; rw [h k]
theorem sOw_od {T : sT} {Lw : Nat → sLaw} {S : sR} {lots od od' : Int32} {a : Nat} (h : ∀ k, sRt S od k = sRt S od' k) : sOw T Lw S lots od a = sOw T Lw S lots od' a := by
  funext k; unfold sOw sOwes vrA; rw [h k]
theorem sDs_od {T : sT} {Lw : Nat → sLaw} {S : sR} {lots od od' : Int32} {a : Nat} (h : ∀ k, sRt S od k = sRt S od' k) : sDs T Lw lots od S a = sDs T Lw lots od' S a := by unfold sDs; rw [sPr_od h]
theorem sWl_od {T : sT} {Lw : Nat → sLaw} {S : sR} {lots od od' : Int32} {a : Nat} (h : ∀ k, sRt S od k = sRt S od' k) : sWl T Lw lots od S a = sWl T Lw lots od' S a := by unfold sWl; rw [sPr_od h, sDs_od h]
theorem sNA_od {T : sT} {Lw : Nat → sLaw} {S : sR} {lots od od' th th' : Int32} {a : Nat} (h : ∀ k, sRt S od k = sRt S od' k) (ht : sTh th a ↔ sTh th' a) : sNA T Lw lots od th a S = sNA T Lw lots od' th' a S := by
  unfold sNA
  rw [sDs_od h, sWl_od h, sOw_od h]
  by_cases hc : sTh th a ∧ sHis T S a
  · have hc' : sTh th' a ∧ sHis T S a := ⟨ht.mp hc.1, hc.2⟩
    rw [if_pos hc, if_pos hc']
  · have hc' : ¬ (sTh th' a ∧ sHis T S a) := fun z => hc ⟨ht.mpr z.1, z.2⟩
    rw [if_neg hc, if_neg hc']
theorem sNs_od {T : sT} {Lw : Nat → sLaw} (hv : vT T Lw) {S : sR} {lots od od' th th' : Int32} (h : ∀ S' : sR, S' 65 = S 65 → ∀ k, sRt S' od k = sRt S' od' k) (ht : ∀ a, a < T 0 2 → (sTh th a ↔ sTh th' a)) : ∀ n, n ≤ T 0 2 → sNs T Lw lots od th n S = sNs T Lw lots od' th' n S := by
  intro n
  induction n with
  | zero => intro _; rfl
  | succ n ih =>
    intro hn
    unfold sNs
    rw [← ih (by omega)]
    exact sNA_od (h _ (sNs_keep hv (by omega) n (by omega))) (ht n (by omega))
theorem sNn_od {T : sT} {Lw : Nat → sLaw} (hv : vT T Lw) {S : sR} {lots od od' th th' : Int32} (h : ∀ S' : sR, S' 65 = S 65 → ∀ k, sRt S' od k = sRt S' od' k) (ht : ∀ a, a < T 0 2 → (sTh th a ↔ sTh th' a)) : ∀ n, sNn T Lw lots od th n S = sNn T Lw lots od' th' n S := by
  intro n
  induction n with
  | zero => rfl
  | succ n ih =>
    unfold sNn
    rw [← ih]
    unfold sNt
    rw [sNs_od hv (fun S' hS' => h S' (by rw [hS', sNn_65 hv])) ht _ (Nat.le_refl _)]
theorem od_plain {S : sR} {r : Nat} (hr : r ≤ 9) (h : S 65 = nI r) : ∀ S' : sR, S' 65 = S 65 → ∀ k, sRt S' (S 65) k = sRt S' (-1) k := by
  intro S' hS' k
  unfold sRt
  have h1 : ¬ S 65 < 0 := by rw [h]; exact nI_pos (by omega)
  have h2 : ((-1) : Int32) < 0 := by decide
  rw [if_neg h1, if_pos h2, hS']
  split <;> rfl
theorem thN_bt {T : sT} (h7 : T 0 2 ≤ 7) : ∀ a, a < T 0 2 → bt (thN T) a = true := by
  unfold thN
  generalize T 0 2 = n at h7
  have : ∀ n, n ≤ 7 → ∀ a, a < n → bt ((1 <<< (nI n &&& 31)) - 1) a = true := by decide +kernel
  exact this n h7
theorem th_plain {T : sT} (h7 : T 0 2 ≤ 7) : ∀ a, a < T 0 2 → (sTh (thN T) a ↔ sTh 127 a) := by
  intro a ha
  rw [sTh_bt (by omega), sTh_bt (by omega), thN_bt h7 a ha]
  have : ∀ a, a < 7 → bt 127 a = true := by decide +kernel
  rw [this a (by omega)]
/-- the class's nights are the reference's -/
theorem nn_c {T : sT} {Lw : Nat → sLaw} (hv : vT T Lw) {S : sR} {lots : Int32} {r : Nat} (hr : r ≤ 9) (h : S 65 = nI r) (n : Nat) : sNn T Lw lots (S 65) (thN T) n S = sNn T Lw lots (-1) 127 n S := sNn_od hv (od_plain hr h) (th_plain hv.1.2.2.1) n
/-! sums -/
def sm (f : Nat → Int32) : Nat → Int32
  | 0 => 0
  | n + 1 => sm f n + f n
theorem sm_congr {f g : Nat → Int32} : ∀ n, (∀ i, i < n → f i = g i) → sm f n = sm g n := by
  intro n
  induction n with
  | zero => intro _; rfl
  | succ n ih => intro h; unfold sm; rw [ih (fun i hi => h i (by omega)), h n (by omega)]
theorem sm_add {f g : Nat → Int32} : ∀ n, sm (fun i => f i + g i) n = sm f n + sm g n := by
  intro n
  induction n with
  | zero => rfl
  | succ n ih => unfold sm; rw [ih]; ac_rfl
theorem sm_one {k : Nat} {p : Int32} : ∀ n, sm (fun i => if i = k then p else 0) n = if k < n then p else 0 := by
  intro n
  induction n with
  | zero => simp [sm]
  | succ n ih =>
    unfold sm
    rw [ih]
    by_cases h1 : k < n
    · rw [if_pos h1, if_neg (by omega), if_pos (by omega), Int32.add_zero]
    · rw [if_neg h1]
      by_cases h2 : n = k
      · rw [if_pos h2, if_pos (by omega), Int32.zero_add]
      · rw [if_neg h2, if_neg (by omega), Int32.add_zero]
theorem sub_add_x (a b x : Int32) : (a + x) - (b + x) = a - b := by
  simp only [Int32.sub_eq_add_neg, Int32.neg_add]
  rw [show a + x + (-b + -x) = a + -b + (x + -x) by ac_rfl, Int32.add_right_neg, Int32.add_zero]
theorem dfs_sm {F R : Nat → Int32} {c : Nat} : ∀ n, dfs F R c n = sm (fun i => F (c + i)) n - sm (fun i => R (c + i)) n := by
  intro n
  induction n with
  | zero => show (0 : Int32) = 0 - 0; decide
  | succ n ih =>
    unfold dfs sm
    rw [ih]
    simp only [Int32.sub_eq_add_neg, Int32.neg_add]
    ac_rfl
/-- what grows together: the TILL and what is paid on ROADS; who is SEEN, and where -/
def iP (S : sR) : Int32 := S 66 - sm (fun k => S (24 + k)) 12
def iS (S : sR) : Int32 := sm (fun k => S (12 + k)) 12 - sm (fun a => S (57 + a)) 7
theorem sG1_iP {T : sT} {a k : Nat} {p : Int32} {S : sR} (ha : a < 7) (hk : k < 12) : iP (sG1 T a k p S) = iP S := by
  unfold iP
  have e1 : sG1 T a k p S 66 = S 66 + p := by
    rw [sG1_ap, if_neg (show ¬ 66 = 24 + k by omega), if_neg (show ¬ 66 = 36 + a by omega), if_pos rfl, if_neg (show ¬ 66 = k by omega), if_neg (show ¬ (T 4 k = 1 ∧ 66 = 12 + k) by omega), if_neg (show ¬ (T 4 k = 1 ∧ 66 = 57 + a) by omega)]
    simp only [Int32.add_zero]
  have e2 : sm (fun j => sG1 T a k p S (24 + j)) 12 = sm (fun j => S (24 + j)) 12 + p := by
    rw [sm_congr (g := fun j => S (24 + j) + (if j = k then p else 0)) 12 (fun j hj => ?_), sm_add, sm_one, if_pos hk]
    rw [sG1_ap, if_neg (show ¬ 24 + j = 36 + a by omega), if_neg (show ¬ 24 + j = 66 by omega), if_neg (show ¬ 24 + j = k by omega), if_neg (show ¬ (T 4 k = 1 ∧ 24 + j = 12 + k) by omega), if_neg (show ¬ (T 4 k = 1 ∧ 24 + j = 57 + a) by omega)]
    simp only [Int32.add_zero]
    by_cases h : j = k
    · rw [if_pos h, if_pos (by omega)]
    · rw [if_neg h, if_neg (by omega)]
  rw [e1, e2, sub_add_x]
theorem sG1_iS {T : sT} {a k : Nat} {p : Int32} {S : sR} (ha : a < 7) (hk : k < 12) : iS (sG1 T a k p S) = iS S := by
  unfold iS
  have e1 : sm (fun j => sG1 T a k p S (12 + j)) 12 = sm (fun j => S (12 + j)) 12 + (if T 4 k = 1 then 1 else 0) := by
    rw [sm_congr (g := fun j => S (12 + j) + (if j = k then (if T 4 k = 1 then 1 else 0) else 0)) 12 (fun j hj => ?_), sm_add, sm_one, if_pos hk]
    rw [sG1_s ha hk hj]
    by_cases h : j = k
    · rw [if_pos h]
      by_cases h4 : T 4 k = 1
      · rw [if_pos h4, if_pos ⟨h4, h⟩]
      · rw [if_neg h4, if_neg (fun z => h4 z.1)]
    · rw [if_neg h, if_neg (fun z => h z.2)]
  have e2 : sm (fun j => sG1 T a k p S (57 + j)) 7 = sm (fun j => S (57 + j)) 7 + (if T 4 k = 1 then 1 else 0) := by
    rw [sm_congr (g := fun j => S (57 + j) + (if j = a then (if T 4 k = 1 then 1 else 0) else 0)) 7 (fun j hj => ?_), sm_add, sm_one, if_pos ha]
    rw [sG1_ap, if_neg (show ¬ 57 + j = 24 + k by omega), if_neg (show ¬ 57 + j = 36 + a by omega), if_neg (show ¬ 57 + j = 66 by omega), if_neg (show ¬ 57 + j = k by omega), if_neg (show ¬ (T 4 k = 1 ∧ 57 + j = 12 + k) by omega)]
    simp only [Int32.add_zero]
    by_cases h : j = a
    · rw [if_pos h]
      by_cases h4 : T 4 k = 1
      · rw [if_pos h4, if_pos ⟨h4, by omega⟩]
      · rw [if_neg h4, if_neg (fun z => h4 z.1)]
    · rw [if_neg h, if_neg (fun z => h (by omega))]
  rw [e1, e2, sub_add_x]
theorem add_inv {S : sR} {j : Nat} {x : Int32} (h : ¬ (j = 66 ∨ (24 ≤ j ∧ j < 36) ∨ (12 ≤ j ∧ j < 24) ∨ (57 ≤ j ∧ j < 64))) : iP (addR S j x) = iP S ∧ iS (addR S j x) = iS S := by
  constructor
  · unfold iP
    rw [addR_ne (by omega), sm_congr (g := fun k => S (24 + k)) 12 (fun i hi => addR_ne (by omega))]
  · unfold iS
    rw [sm_congr (g := fun k => S (12 + k)) 12 (fun i hi => addR_ne (by omega)), sm_congr (g := fun k => S (57 + k)) 7 (fun i hi => addR_ne (by omega))]
theorem sGo_inv {T : sT} {ow : Nat → Int32} {a : Nat} (ha : a < 7) : ∀ (W : List Nat) (c : Int32) (S : sR), (∀ k ∈ W, k < 12) → iP (sGo T ow a W c S) = iP S ∧ iS (sGo T ow a W c S) = iS S := by
  intro W
  induction W with
  | nil => intro c S _; exact ⟨rfl, rfl⟩
  | cons k W ih =>
    intro c S h
    unfold sGo
    have hk := h k List.mem_cons_self
    obtain ⟨h1, h2⟩ := ih (c - sPay ow k c) (sG1 T a k (sPay ow k c) S) (fun j hj => h j (List.mem_cons_of_mem _ hj))
    rw [h1, h2, sG1_iP ha hk, sG1_iS ha hk]
    exact ⟨rfl, rfl⟩
/-- what he pays, of what he carries -/
theorem sGo_till {T : sT} {ow : Nat → Int32} {a : Nat} (ha : a < 7) (how : ∀ k, ∃ m, m ≤ 99 ∧ ow k = nI m) : ∀ (W : List Nat) (c : Nat) (S : sR), c ≤ 99 → (∀ k ∈ W, k < 12) → ∃ g, g ≤ c ∧ sGo T ow a W (nI c) S 66 = S 66 + nI g := by
  intro W
  induction W with
  | nil => intro c S _ _; exact ⟨0, by omega, by show S 66 = S 66 + 0; rw [Int32.add_zero]⟩
  | cons k W ih =>
    intro c S hc h
    have hk := h k List.mem_cons_self
    obtain ⟨m, hm, em⟩ := how k
    obtain ⟨q, hq, eq⟩ : ∃ q, q ≤ c ∧ sPay ow k (nI c) = nI q := by
      unfold sPay; rw [em]
      by_cases z : nI c ≤ nI m
      · rw [if_pos z]; exact ⟨c, Nat.le_refl _, rfl⟩
      · rw [if_neg z]
        have : ¬ c ≤ m := fun y => z (nI_le y (by omega))
        exact ⟨m, by omega, rfl⟩
    unfold sGo
    rw [eq, pk_sub hq]
    obtain ⟨g, hg, e⟩ := ih (c - q) (sG1 T a k (nI q) S) (by omega) (fun j hj => h j (List.mem_cons_of_mem _ hj))
    refine ⟨q + g, by omega, ?_⟩
    rw [e, sG1_ap, if_neg (show ¬ 66 = 24 + k by omega), if_neg (show ¬ 66 = 36 + a by omega), if_pos rfl, if_neg (show ¬ 66 = k by omega), if_neg (show ¬ (T 4 k = 1 ∧ 66 = 12 + k) by omega), if_neg (show ¬ (T 4 k = 1 ∧ 66 = 57 + a) by omega)]
    simp only [Int32.add_zero]
    rw [Int32.add_assoc, nI_add]
theorem sGo_off {T : sT} {ow : Nat → Int32} {a j : Nat} (ha : a < 7) : ∀ (W : List Nat) (c : Int32) (S : sR), (∀ k ∈ W, k < 12 ∧ j ≠ k) → j < 12 → sGo T ow a W c S (24 + j) = S (24 + j) := by
  intro W
  induction W with
  | nil => intro c S _ _; rfl
  | cons k W ih =>
    intro c S h hj
    have hk := h k List.mem_cons_self
    unfold sGo
    rw [ih _ _ (fun q hq => h q (List.mem_cons_of_mem _ hq)) hj, sG1_ap, if_neg (show ¬ 24 + j = 24 + k by omega), if_neg (show ¬ 24 + j = 36 + a by omega), if_neg (show ¬ 24 + j = 66 by omega), if_neg (show ¬ 24 + j = k by omega), if_neg (show ¬ (T 4 k = 1 ∧ 24 + j = 12 + k) by omega), if_neg (show ¬ (T 4 k = 1 ∧ 24 + j = 57 + a) by omega)]
    simp only [Int32.add_zero]
theorem sOw_n {T : sT} {Lw : Nat → sLaw} {S : sR} {lots od : Int32} {a : Nat} : ∀ k, ∃ m, m ≤ 99 ∧ sOw T Lw S lots od a k = nI m := fun k => by
  unfold sOw
  split
  · obtain ⟨m, h1, h2, -⟩ := sOwes_in (T := T) (Lw := Lw) (S := S) (lots := lots) (od := od) (a := a) (k := k); exact ⟨m, h1, h2⟩
  · exact ⟨0, by decide, rfl⟩
/-- a GHOST's night: what stays, what grows -/
theorem sNA_grow {T : sT} {Lw : Nat → sLaw} (hv : vT T Lw) {lots od th : Int32} {a : Nat} {S : sR} (ha : a < T 0 2) : iP (sNA T Lw lots od th a S) = iP S ∧ iS (sNA T Lw lots od th a S) = iS S ∧ (∃ g, g ≤ 99 ∧ sNA T Lw lots od th a S 66 = S 66 + nI g) ∧ ∀ j, T 0 1 ≤ j → j < 12 → sNA T Lw lots od th a S (24 + j) = S (24 + j) := by
  have h7 := hv.1.2.2.1
  have h12 := hv.1.2.1
  have t8 := (hv.2.2.1 a ha).2.2.2.2.1
  unfold sNA
  split
  · split
    · next h =>
      obtain ⟨h8, hin⟩ := sWl_in hv h
      have hin' : ∀ k ∈ sWl T Lw lots od S a, k < 12 := fun k hk => by have := hin k hk; omega
      obtain ⟨i1, i2⟩ := sGo_inv (T := T) (ow := sOw T Lw S lots od a) (a := a) (by omega) (sWl T Lw lots od S a) (nI (T 8 a)) (addR S (43 + a) 1) hin'
      obtain ⟨j1, j2⟩ := add_inv (S := S) (j := 43 + a) (x := 1) (by omega)
      refine ⟨by rw [i1, j1], by rw [i2, j2], ?_, fun j h1 h2 => ?_⟩
      · obtain ⟨g, hg, e⟩ := sGo_till (T := T) (a := a) (by omega) (sOw_n (T := T) (Lw := Lw) (S := S) (lots := lots) (od := od) (a := a)) (sWl T Lw lots od S a) (T 8 a) (addR S (43 + a) 1) t8 hin'
        exact ⟨g, by omega, by rw [e, addR_ne (by omega)]⟩
      · rw [sGo_off (by omega) _ _ _ (fun k hk => ⟨hin' k hk, by have := hin k hk; omega⟩) h2, addR_ne (by omega)]
    · obtain ⟨j1, j2⟩ := add_inv (S := S) (j := 50 + a) (x := 1) (by omega)
      exact ⟨j1, j2, ⟨0, by omega, by rw [addR_ne (by omega)]; show S 66 = S 66 + 0; rw [Int32.add_zero]⟩, fun j h1 h2 => addR_ne (by omega)⟩
  · exact ⟨rfl, rfl, ⟨0, by omega, by show S 66 = S 66 + 0; rw [Int32.add_zero]⟩, fun j h1 h2 => rfl⟩
theorem sNs_grow {T : sT} {Lw : Nat → sLaw} (hv : vT T Lw) {lots od th : Int32} {S : sR} : ∀ n, n ≤ T 0 2 → iP (sNs T Lw lots od th n S) = iP S ∧ iS (sNs T Lw lots od th n S) = iS S ∧ (∃ g, g ≤ 99 * n ∧ sNs T Lw lots od th n S 66 = S 66 + nI g) ∧ (∀ j, T 0 1 ≤ j → j < 12 → sNs T Lw lots od th n S (24 + j) = S (24 + j)) ∧ ∃ c d : Nat → Nat, ∀ i, i < 12 → c i ≤ 8 * n ∧ d i ≤ 8 * n ∧ (∀ w, S i = nI w → sNs T Lw lots od th n S i = nI (w + c i)) ∧ ∀ w, S (12 + i) = nI w → sNs T Lw lots od th n S (12 + i) = nI (w + d i) := by
  intro n
  induction n with
  | zero => intro _; exact ⟨rfl, rfl, ⟨0, by omega, by show S 66 = S 66 + 0; rw [Int32.add_zero]⟩, fun _ _ _ => rfl, fun _ => 0, fun _ => 0, fun i _ => ⟨Nat.zero_le _, Nat.zero_le _, fun w h => h, fun w h => h⟩⟩
  | succ n ih =>
    intro hn
    obtain ⟨a1, a2, ⟨g, hg, eg⟩, a4, c, d, hcd⟩ := ih (by omega)
    obtain ⟨b1, b2, ⟨g', hg', eg'⟩, b4⟩ := sNA_grow hv (lots := lots) (od := od) (th := th) (a := n) (S := sNs T Lw lots od th n S) (by omega)
    obtain ⟨c', d', hcd'⟩ := sNA_add hv (lots := lots) (od := od) (th := th) (a := n) (S := sNs T Lw lots od th n S) (by omega)
    unfold sNs
    refine ⟨by rw [b1, a1], by rw [b2, a2], ⟨g + g', by omega, by rw [eg', eg, Int32.add_assoc, nI_add]⟩, fun j h1 h2 => by rw [b4 j h1 h2, a4 j h1 h2], fun i => c i + c' i, fun i => d i + d' i, fun i hi => ?_⟩
    obtain ⟨p1, p2, p3, p4⟩ := hcd i hi
    obtain ⟨q1, q2, q3, q4⟩ := hcd' i hi
    refine ⟨by show c i + c' i ≤ _; omega, by show d i + d' i ≤ _; omega, fun w hw => ?_, fun w hw => ?_⟩
    · rw [q3 _ (p3 w hw), Nat.add_assoc]
    · rw [q4 _ (p4 w hw), Nat.add_assoc]
/-- nights: what stays, what grows -/
theorem sNn_grow {T : sT} {Lw : Nat → sLaw} (hv : vT T Lw) {lots od th : Int32} {S : sR} : ∀ n, iP (sNn T Lw lots od th n S) = iP S ∧ iS (sNn T Lw lots od th n S) = iS S ∧ (∃ g, g ≤ 693 * n ∧ sNn T Lw lots od th n S 66 = S 66 + nI g) ∧ (∀ j, T 0 1 ≤ j → j < 12 → sNn T Lw lots od th n S (24 + j) = S (24 + j)) ∧ (∃ c d : Nat → Nat, ∀ i, i < 12 → c i ≤ 56 * n ∧ d i ≤ 56 * n ∧ (∀ w, S i = nI w → sNn T Lw lots od th n S i = nI (w + c i)) ∧ ∀ w, S (12 + i) = nI w → sNn T Lw lots od th n S (12 + i) = nI (w + d i)) ∧ (∀ w, S 67 = nI w → sNn T Lw lots od th n S 67 = nI (w + n)) ∧ sNn T Lw lots od th n S 64 = S 64 := by
  intro n
  have h7 := hv.1.2.2.1
  induction n with
  | zero => exact ⟨rfl, rfl, ⟨0, by omega, by show S 66 = S 66 + 0; rw [Int32.add_zero]⟩, fun _ _ _ => rfl, ⟨fun _ => 0, fun _ => 0, fun i _ => ⟨Nat.zero_le _, Nat.zero_le _, fun w h => h, fun w h => h⟩⟩, fun w h => h, rfl⟩
  | succ n ih =>
    obtain ⟨a1, a2, ⟨g, hg, eg⟩, a4, ⟨c, d, hcd⟩, a6, a7⟩ := ih
    obtain ⟨b1, b2, ⟨g', hg', eg'⟩, b4, c', d', hcd'⟩ := sNs_grow hv (lots := lots) (od := od) (th := th) (S := sNn T Lw lots od th n S) (T 0 2) (Nat.le_refl _)
    have k64 := sNs_keep hv (lots := lots) (od := od) (th := th) (j := 64) (S := sNn T Lw lots od th n S) (by omega) (T 0 2) (Nat.le_refl _)
    have k67 := sNs_keep hv (lots := lots) (od := od) (th := th) (j := 67) (S := sNn T Lw lots od th n S) (by omega) (T 0 2) (Nat.le_refl _)
    obtain ⟨j1, j2⟩ := add_inv (S := sNs T Lw lots od th (T 0 2) (sNn T Lw lots od th n S)) (j := 67) (x := 1) (by omega)
    unfold sNn sNt
    refine ⟨by rw [j1, b1, a1], by rw [j2, b2, a2], ⟨g + g', by omega, by rw [addR_ne (by omega), eg', eg, Int32.add_assoc, nI_add]⟩, fun j h1 h2 => by rw [addR_ne (by omega), b4 j h1 h2, a4 j h1 h2], ⟨fun i => c i + c' i, fun i => d i + d' i, fun i hi => ?_⟩, fun w hw => ?_, by rw [addR_ne (by omega), k64, a7]⟩
    · obtain ⟨p1, p2, p3, p4⟩ := hcd i hi
      obtain ⟨q1, q2, q3, q4⟩ := hcd' i hi
      refine ⟨by show c i + c' i ≤ _; omega, by show d i + d' i ≤ _; omega, fun w hw => ?_, fun w hw => ?_⟩
      · rw [addR_ne (by omega), q3 _ (p3 w hw), Nat.add_assoc]
      · rw [addR_ne (by omega), q4 _ (p4 w hw), Nat.add_assoc]
    · rw [addR_ap, if_pos rfl, k67, a6 w hw, nI_inc, Nat.add_assoc]
theorem rgS_n {T : sT} {Lw : Nat → sLaw} (hv : vT T Lw) {lots od th : Int32} {S : sR} {B : Nat} (h : rgS S B) (n : Nat) : rgS (sNn T Lw lots od th n S) (B + n) := by
  obtain ⟨-, -, -, -, ⟨c, d, hcd⟩, h67, -⟩ := sNn_grow hv (lots := lots) (od := od) (th := th) (S := S) n
  obtain ⟨⟨w, h1, h2⟩, h3⟩ := h
  refine ⟨⟨w + n, by omega, h67 w h2⟩, fun k hk => ?_⟩
  by_cases k12 : k < 12
  · obtain ⟨p1, -, p3, -⟩ := hcd k k12
    obtain ⟨u, h4, h5⟩ := h3 k hk
    exact ⟨u + c k, by omega, p3 u h5⟩
  · obtain ⟨-, p2, -, p4⟩ := hcd (k - 12) (by omega)
    obtain ⟨u, h4, h5⟩ := h3 k hk
    have := p4 u (by rw [show 12 + (k - 12) = k by omega]; exact h5)
    rw [show 12 + (k - 12) = k by omega] at this
    exact ⟨u + d (k - 12), by omega, this⟩
