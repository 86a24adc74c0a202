/-! THE TEXT CUT INTO TOKENS: kinds as the reference numbers them -/
def isL (b : Int32) : Bool := decide (¬ b < 97) && decide (¬ 122 < b)
def isDg (b : Int32) : Bool := decide (¬ b < 48) && decide (¬ 57 < b)
def isBl (b : Int32) : Bool := b == 32 || (b == 9 || (b == 10 || b == 13))
def sgn (b : Int32) : Nat := if b = 59 then 4 else if b = 61 then 5 else if b = 40 then 6 else if b = 41 then 7 else if b = 43 then 8 else if b = 45 then 9 else if b = 42 then 10 else if b = 47 then 15 else if b = 60 then 13 else 3
def run (P : Int32 → Bool) (Y : List Int32) (i : Nat) : List Int32 := (Y.drop i).takeWhile P
def yb (Y : List Int32) (i : Nat) : Int32 := Y[i]?.getD 0
theorem yb_of {Y : List Int32} {i : Nat} (h : i < Y.length) : Y[i]? = some (yb Y i) := by
  unfold yb; rw [List.getElem?_eq_getElem h]; rfl
theorem yb_out {Y : List Int32} {i : Nat} (h : ¬ i < Y.length) : yb Y i = 0 := by
  unfold yb; rw [List.getElem?_eq_none (by omega)]; rfl
theorem run_s {P : Int32 → Bool} {Y : List Int32} {i : Nat} (h : i < Y.length) (hp : P (yb Y i) = true) : run P Y i = yb Y i :: run P Y (i + 1) := by
  have e : yb Y i = Y[i] := by unfold yb; rw [List.getElem?_eq_getElem h]; rfl
  unfold run
  rw [List.drop_eq_getElem_cons h, List.takeWhile_cons, ← e, if_pos hp]
theorem run_n {P : Int32 → Bool} {Y : List Int32} {i : Nat} (h : ¬ (i < Y.length ∧ P (yb Y i) = true)) : run P Y i = [] := by
  unfold run
  by_cases hi : i < Y.length
  · have e : yb Y i = Y[i] := by unfold yb; rw [List.getElem?_eq_getElem hi]; rfl
    rw [List.drop_eq_getElem_cons hi, List.takeWhile_cons, ← e, if_neg (fun z => h ⟨hi, z⟩)]
  · rw [List.drop_eq_nil_of_le (by omega)]; rfl
theorem run_le {P : Int32 → Bool} {Y : List Int32} {i : Nat} (h : i ≤ Y.length) : i + (run P Y i).length ≤ Y.length := by
  unfold run
  have h1 : ((Y.drop i).takeWhile P).length ≤ (Y.drop i).length := (List.takeWhile_sublist P).length_le
  rw [List.length_drop] at h1; omega
theorem run_all {P : Int32 → Bool} {Y : List Int32} {i : Nat} : ∀ b ∈ run P Y i, P b = true := by
  intro b hb
  unfold run at hb
  revert hb
  generalize Y.drop i = Z
  induction Z with
  | nil => intro hb; cases hb
  | cons x Z ih =>
    intro hb
    rw [List.takeWhile_cons] at hb
    split at hb
    next h =>
      rcases List.mem_cons.mp hb with rfl | hb
      · exact h
      · exact ih hb
    next => cases hb
/-- behind a run comes none of its kind -/
theorem run_end {P : Int32 → Bool} {Y : List Int32} : ∀ (q i : Nat), i + q = Y.length → ¬ (i + (run P Y i).length < Y.length ∧ P (yb Y (i + (run P Y i).length)) = true) := by
  intro q
  induction q with
  | zero => intro i hi h; have := run_le (P := P) (show i ≤ Y.length by omega); omega
  | succ q ih =>
    intro i hi
    by_cases hp : P (yb Y i) = true
    · rw [run_s (by omega) hp]
      have := ih (i + 1) (by omega)
      rw [show i + (yb Y i :: run P Y (i + 1)).length = i + 1 + (run P Y (i + 1)).length by simp; omega]
      exact this
    · rw [run_n (fun z => hp z.2)]
      exact fun z => hp z.2
/-! names and numbers -/
def lv (b : Int32) : Nat := b.toNatClampNeg - 96
def enB (B : Nat) (a : Nat) (w : List Nat) : Nat := w.foldl (fun a d => a * B + d) a
def en (B : Nat) (w : List Nat) : Nat := enB B 0 w
def dvA (a : Nat) (w : List Int32) : Nat := w.foldl (fun a b => a * 10 + (b.toNatClampNeg - 48)) a
theorem lv_in {b : Int32} (h : isL b = true) : 1 ≤ lv b ∧ lv b ≤ 26 ∧ b = nI (lv b + 96) := by
  unfold isL at h
  rw [Bool.and_eq_true, decide_eq_true_iff, decide_eq_true_iff, i32_lt, i32_lt] at h
  have h1 : (97 : Int32).toInt = 97 := rfl
  have h2 : (122 : Int32).toInt = 122 := rfl
  rw [h1, h2] at h
  have hn : b.toNatClampNeg = b.toInt.toNat := rfl
  unfold lv
  have e : b = nI b.toNatClampNeg := (nI_of_nat (fun z => by rw [i32_lt] at z; have : (0 : Int32).toInt = 0 := rfl; omega)).symm
  refine ⟨by omega, by omega, ?_⟩
  rw [show b.toNatClampNeg - 96 + 96 = b.toNatClampNeg by omega]; exact e
theorem dg_in {b : Int32} (h : isDg b = true) : b.toNatClampNeg - 48 ≤ 9 ∧ b = nI (b.toNatClampNeg - 48 + 48) := by
  unfold isDg at h
  rw [Bool.and_eq_true, decide_eq_true_iff, decide_eq_true_iff, i32_lt, i32_lt] at h
  have h1 : (48 : Int32).toInt = 48 := rfl
  have h2 : (57 : Int32).toInt = 57 := rfl
  rw [h1, h2] at h
  have hn : b.toNatClampNeg = b.toInt.toNat := rfl
  have e : b = nI b.toNatClampNeg := (nI_of_nat (fun z => by rw [i32_lt] at z; have : (0 : Int32).toInt = 0 := rfl; omega)).symm
  refine ⟨by omega, ?_⟩
  rw [show b.toNatClampNeg - 48 + 48 = b.toNatClampNeg by omega]; exact e
def enR (B : Nat) : List Nat → Nat
  | [] => 0
  | d :: r => enR B r * B + d
theorem en_rev {B : Nat} (w : List Nat) : en B w = enR B w.reverse := by
  unfold en enB
  rw [List.foldl_eq_foldr_reverse]
  generalize w.reverse = r
  induction r with
  | nil => rfl
  | cons d r ih => show (List.foldr _ 0 r) * B + d = _; unfold enR; rw [ih]
theorem enR_inj {B : Nat} (hB : 27 ≤ B) : ∀ (w v : List Nat), (∀ d ∈ w, 1 ≤ d ∧ d ≤ 26) → (∀ d ∈ v, 1 ≤ d ∧ d ≤ 26) → enR B w = enR B v → w = v := by
  intro w
  induction w with
  | nil =>
    intro v _ hv h
    cases v with
    | nil => rfl
    | cons d r => have := hv d List.mem_cons_self; unfold enR at h; exfalso; omega
  | cons c w ih =>
    intro v hw hv h
    have h1 := hw c List.mem_cons_self
    cases v with
    | nil => unfold enR at h; exfalso; omega
    | cons d r =>
      have h2 := hv d List.mem_cons_self
      unfold enR at h
      have hm : (enR B w * B + c) % B = (enR B r * B + d) % B := by rw [h]
      rw [Nat.mul_comm, Nat.mul_add_mod, Nat.mul_comm, Nat.mul_add_mod, Nat.mod_eq_of_lt (by omega), Nat.mod_eq_of_lt (by omega)] at hm
      have hd : enR B w * B = enR B r * B := by omega
      have := ih r (fun x hx => hw x (List.mem_cons_of_mem _ hx)) (fun x hx => hv x (List.mem_cons_of_mem _ hx)) (Nat.eq_of_mul_eq_mul_right (by omega) hd)
      rw [this, hm]
theorem enR_lt {B : Nat} (hB : 27 ≤ B) : ∀ (w : List Nat), (∀ d ∈ w, 1 ≤ d ∧ d ≤ 26) → enR B w < B ^ w.length := by
  intro w
  induction w with
  | nil => intro _; exact Nat.one_pos
  | cons c w ih =>
    intro hw
    have h1 := hw c List.mem_cons_self
    have h2 := ih (fun x hx => hw x (List.mem_cons_of_mem _ hx))
    unfold enR
    rw [List.length_cons, Nat.pow_succ]
    have h3 : (enR B w + 1) * B ≤ B ^ w.length * B := Nat.mul_le_mul_right B h2
    rw [Nat.add_mul] at h3
    omega
def okW (w : List Nat) : Prop := w.length ≤ 8 ∧ ∀ d ∈ w, 1 ≤ d ∧ d ≤ 26
theorem en_lt {B : Nat} (hB : 27 ≤ B) (hB2 : B ≤ 32) {w : List Nat} (h : okW w) : en B w < 2 ^ 40 := by
  rw [en_rev]
  have h1 := enR_lt hB w.reverse (fun d hd => h.2 d (List.mem_reverse.mp hd))
  rw [List.length_reverse] at h1
  have h2 : B ^ w.length ≤ 32 ^ w.length := Nat.pow_le_pow_left hB2 _
  have h3 : 32 ^ w.length ≤ 32 ^ 8 := Nat.pow_le_pow_right (by decide) h.1
  have h4 : (32 : Nat) ^ 8 = 2 ^ 40 := by decide
  omega
theorem lN_inj {a b : Nat} (ha : a < 2 ^ 40) (hb : b < 2 ^ 40) (h : lN a = lN b) : a = b := by
  have h1 : (lN a).toBitVec.toNat = (lN b).toBitVec.toNat := by rw [h]
  have h2 : ∀ n : Nat, (lN n).toBitVec.toNat = n % 2 ^ 64 := fun n => BitVec.toNat_ofNat n 64
  rw [h2, h2, Nat.mod_eq_of_lt (by omega), Nat.mod_eq_of_lt (by omega)] at h1
  exact h1
theorem nm_inj {B : Nat} (hB : 27 ≤ B) (hB2 : B ≤ 32) {w v : List Nat} (hw : okW w) (hv : okW v) : lN (en B w) = lN (en B v) ↔ w = v := by
  refine ⟨fun h => ?_, fun h => by rw [h]⟩
  have h1 := lN_inj (en_lt hB hB2 hw) (en_lt hB hB2 hv) h
  rw [en_rev, en_rev] at h1
  have := enR_inj hB _ _ (fun d hd => hw.2 d (List.mem_reverse.mp hd)) (fun d hd => hv.2 d (List.mem_reverse.mp hd)) h1
  exact List.reverse_inj.mp this
theorem dvA_lt : ∀ (w : List Int32) (a : Nat), (∀ b ∈ w, isDg b = true) → dvA a w < (a + 1) * 10 ^ w.length := by
  intro w
  induction w with
  | nil => intro a _; unfold dvA; simp
  | cons b w ih =>
    intro a hw
    have h1 := (dg_in (hw b List.mem_cons_self)).1
    have h2 := ih (a * 10 + (b.toNatClampNeg - 48)) (fun x hx => hw x (List.mem_cons_of_mem _ hx))
    have h3 : (a * 10 + (b.toNatClampNeg - 48) + 1) * 10 ^ w.length ≤ ((a + 1) * 10) * 10 ^ w.length := Nat.mul_le_mul_right _ (by omega)
    rw [List.length_cons, Nat.pow_succ, Nat.mul_comm (10 ^ w.length) 10, ← Nat.mul_assoc]
    exact Nat.lt_of_lt_of_le h2 h3
/-! the words -/
def wrds : List (List Nat) := [[16, 12, 1, 3, 5], [18, 15, 1, 4], [6, 9, 5, 12, 4], [7, 1, 20, 5], [7, 8, 15, 19, 20], [15, 23, 5, 19], [6, 5, 1, 18, 19], [2, 5, 1, 18, 19], [6, 15, 7], [12, 1, 13, 16], [19, 5, 5, 4], [9, 6], [20, 8, 5, 14], [5, 12, 19, 5], [11, 9, 14, 4], [3, 1, 18, 18, 9, 5, 19], [5, 22, 5, 18, 25], [6, 15, 7, 7, 25], [18, 1, 20, 5], [8, 15, 21, 18, 19], [23, 5, 1, 18], [23, 8, 9, 3, 8], [14, 9, 7, 8, 20]]
theorem wrds_ok : ∀ i, i < 23 → ∃ w, wrds[i]? = some w ∧ okW w ∧ w.length ≤ 7 := by
  have h : ∀ w ∈ wrds, (w.length ≤ 7) ∧ ∀ d ∈ w, 1 ≤ d ∧ d ≤ 26 := by decide
  intro i hi
  have hl : i < wrds.length := hi
  have := h _ (List.getElem_mem hl)
  exact ⟨_, List.getElem?_eq_getElem hl, ⟨by omega, this.2⟩, this.1⟩
theorem wrds_dj : ∀ i, i < 23 → ∀ j, j < 23 → wrds[i]? = wrds[j]? → i = j := by decide +kernel
def kwU (w : List Nat) : Nat → Nat
  | 0 => 1
  | i + 1 => if wrds[i]? = some w then 20 + i else kwU w i
def kwd (w : List Nat) : Nat := kwU w 23
theorem kwU_no {w : List Nat} : ∀ m, (∀ j, j < m → ¬ wrds[j]? = some w) → kwU w m = 1 := by
  intro m
  induction m with
  | zero => intro _; rfl
  | succ m ih => intro h; unfold kwU; rw [if_neg (h m (by omega))]; exact ih (fun j hj => h j (by omega))
theorem kwU_at {w : List Nat} {i : Nat} (h : wrds[i]? = some w) : ∀ m, i < m → m ≤ 23 → kwU w m = 20 + i := by
  intro m
  induction m with
  | zero => intro h; omega
  | succ m ih =>
    intro h1 h2
    unfold kwU
    by_cases e : i = m
    · rw [← e, if_pos h]
    · rw [if_neg (fun z => e (wrds_dj i (by omega) m (by omega) (by rw [h, z])))]
      exact ih (by omega) (by omega)
theorem kwU_in (w : List Nat) : ∀ m, m ≤ 23 → kwU w m = 1 ∨ (20 ≤ kwU w m ∧ kwU w m < 43) := by
  intro m
  induction m with
  | zero => intro _; exact Or.inl rfl
  | succ m ih =>
    intro h
    unfold kwU
    split
    · exact Or.inr ⟨by omega, by omega⟩
    · exact ih (by omega)
/-! TOKENS -/
def tkK (Y : List Int32) (p : Nat) : Nat := if p < Y.length then (if isL (yb Y p) = true then (if 8 < (run isL Y p).length then 3 else kwd ((run isL Y p).map lv)) else if isDg (yb Y p) = true then (if 4 < (run isDg Y p).length then 3 else 2) else sgn (yb Y p)) else 0
def tkN (Y : List Int32) (p : Nat) : Nat := if p < Y.length then (if isL (yb Y p) = true then (run isL Y p).length else if isDg (yb Y p) = true then (run isDg Y p).length else 1) else 0
def bl (Y : List Int32) (p : Nat) : Nat := p + (run isBl Y p).length
def pos (Y : List Int32) : Nat → Nat
  | 0 => 0
  | i + 1 => bl Y (pos Y i) + tkN Y (bl Y (pos Y i))
def pl (Y : List Int32) (i : Nat) : Nat := bl Y (pos Y i)
def kd (Y : List Int32) (i : Nat) : Nat := tkK Y (pl Y i)
def nm (Y : List Int32) (i : Nat) : List Nat := (run isL Y (pl Y i)).map lv
def vl (Y : List Int32) (i : Nat) : Nat := dvA 0 (run isDg Y (pl Y i))
/-- all before it can be read on from -/
def gd (Y : List Int32) (i : Nat) : Prop := ∀ j, j < i → kd Y j ≠ 0 ∧ kd Y j ≠ 3
/-- the class's numbers of the kinds -/
def kC (k : Nat) : Int32 := if 20 ≤ k then nI (108 + k) else if k = 0 then 0 else if k = 1 then 2 else if k = 2 then 3 else if k = 3 then 1 else if k = 4 then 59 else if k = 5 then 61 else if k = 6 then 40 else if k = 7 then 41 else if k = 8 then 43 else if k = 9 then 45 else if k = 10 then 42 else if k = 13 then 60 else if k = 15 then 47 else nI (1000 + k)
theorem kC_inj : ∀ a, a < 43 → ∀ b, b < 43 → kC a = kC b → a = b := by decide +kernel
theorem sgn_in (b : Int32) : sgn b < 16 ∧ 3 ≤ sgn b := by
  unfold sgn
  repeat' (first | split | exact ⟨by decide, by decide⟩)
theorem tkK_in (Y : List Int32) (p : Nat) : tkK Y p < 43 := by
  unfold tkK
  repeat' split
  · decide
  · rcases kwU_in ((run isL Y p).map lv) 23 (by decide) with h | h
    · unfold kwd; omega
    · unfold kwd; omega
  · decide
  · decide
  · have := sgn_in (yb Y p); omega
  · decide
theorem kd_in {Y : List Int32} {i : Nat} : kd Y i < 43 := tkK_in _ _
theorem bl_le {Y : List Int32} {p : Nat} (h : p ≤ Y.length) : bl Y p ≤ Y.length := run_le h
theorem tkN_le {Y : List Int32} {p : Nat} (h : p ≤ Y.length) : p + tkN Y p ≤ Y.length := by
  unfold tkN
  by_cases h1 : p < Y.length
  · rw [if_pos h1]
    split
    · exact run_le h
    · split
      · exact run_le h
      · omega
  · rw [if_neg h1]; omega
theorem pos_le {Y : List Int32} : ∀ i, pos Y i ≤ Y.length := by
  intro i
  induction i with
  | zero => exact Nat.zero_le _
  | succ i ih => unfold pos; exact tkN_le (bl_le ih)
theorem pl_le {Y : List Int32} {i : Nat} : pl Y i ≤ Y.length := bl_le (pos_le i)
theorem kd_0 {Y : List Int32} {i : Nat} : kd Y i ≠ 0 ↔ pl Y i < Y.length := by
  unfold kd tkK
  by_cases h : pl Y i < Y.length
  · rw [if_pos h]
    refine ⟨fun _ => h, fun _ => ?_⟩
    repeat' split
    · decide
    · rcases kwU_in ((run isL Y (pl Y i)).map lv) 23 (by decide) with h | h
      · unfold kwd; omega
      · unfold kwd; omega
    · decide
    · decide
    · have := sgn_in (yb Y (pl Y i)); omega
  · rw [if_neg h]; exact ⟨fun z => absurd rfl z, fun z => absurd z h⟩
theorem tkN_pos {Y : List Int32} {p : Nat} (h : p < Y.length) : 1 ≤ tkN Y p := by
  unfold tkN
  rw [if_pos h]
  split
  next h1 => rw [run_s h h1]; simp
  next h1 =>
    split
    next h2 => rw [run_s h h2]; simp
    next => exact Nat.le_refl _
theorem pl_lt {Y : List Int32} {i : Nat} (h : kd Y i ≠ 0) : pl Y i < pl Y (i + 1) := by
  have h1 := tkN_pos (kd_0.mp h)
  show pl Y i < bl Y (pos Y (i + 1))
  unfold bl
  have : pos Y (i + 1) = pl Y i + tkN Y (pl Y i) := rfl
  omega
theorem vl_le {Y : List Int32} {i : Nat} (h : kd Y i = 2) : vl Y i ≤ 9999 := by
  have hr : (run isDg Y (pl Y i)).length ≤ 4 := by
    unfold kd tkK at h
    by_cases h1 : pl Y i < Y.length
    · rw [if_pos h1] at h
      split at h
      next =>
        split at h
        · cases h
        · rcases kwU_in ((run isL Y (pl Y i)).map lv) 23 (by decide) with h2 | h2 <;> (unfold kwd at h; omega)
      next =>
        split at h
        next =>
          split at h
          · cases h
          · omega
        next => have := sgn_in (yb Y (pl Y i)); omega
    · rw [if_neg h1] at h; cases h
  have h2 := dvA_lt (run isDg Y (pl Y i)) 0 run_all
  have h3 : 10 ^ (run isDg Y (pl Y i)).length ≤ 10 ^ 4 := Nat.pow_le_pow_right (by decide) hr
  unfold vl
  omega
theorem nm_ok {Y : List Int32} {i : Nat} (h : kd Y i = 1) : okW (nm Y i) := by
  refine ⟨?_, fun d hd => ?_⟩
  · unfold nm
    rw [List.length_map]
    unfold kd tkK at h
    by_cases h1 : pl Y i < Y.length
    · rw [if_pos h1] at h
      split at h
      next =>
        split at h
        · cases h
        · omega
      next =>
        split at h
        next =>
          split at h
          · cases h
          · cases h
        next => have := sgn_in (yb Y (pl Y i)); omega
    · rw [if_neg h1] at h; cases h
  · unfold nm at hd
    obtain ⟨b, hb, rfl⟩ := List.mem_map.mp hd
    have := lv_in (run_all b hb)
    exact ⟨this.1, this.2.1⟩
