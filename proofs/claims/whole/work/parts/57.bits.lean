/-! BITS -/
def bt (x : Int32) (i : Nat) : Bool := x.toBitVec.getLsbD i
theorem b_ext {x y : Int32} (h : ∀ i, i < 32 → bt x i = bt y i) : x = y := Int32.toBitVec_inj.mp (BitVec.eq_of_getLsbD_eq (fun i hi => h i hi))
theorem b_or (x y : Int32) (i : Nat) : bt (x ||| y) i = (bt x i || bt y i) := by unfold bt; rw [Int32.toBitVec_or, BitVec.getLsbD_or]
theorem b_and (x y : Int32) (i : Nat) : bt (x &&& y) i = (bt x i && bt y i) := by unfold bt; rw [Int32.toBitVec_and, BitVec.getLsbD_and]
theorem b_xor (x y : Int32) (i : Nat) : bt (x ^^^ y) i = (bt x i ^^ bt y i) := by unfold bt; rw [Int32.toBitVec_xor, BitVec.getLsbD_xor]
theorem b_big {x : Int32} {i : Nat} (h : 32 ≤ i) : bt x i = false := BitVec.getLsbD_of_ge _ _ h
theorem b_m1 : ∀ i, i < 32 → bt (-1) i = true := by decide +kernel
theorem b_0 (i : Nat) : bt 0 i = false := BitVec.getLsbD_zero
theorem s_l : ∀ n, n < 32 → ((nI n &&& 31).toBitVec.smod 32).toNat = n := by decide +kernel
theorem s_u : ∀ n, n < 32 → (((nI n).toUInt32 &&& Int32.toUInt32 31).toBitVec % 32).toNat = n := by decide +kernel
theorem b_shl (n : Nat) (hn : n < 32) (x : Int32) {i : Nat} (hi : i < 32) : bt (x <<< (nI n &&& 31)) i = (decide (n ≤ i) && bt x (i - n)) := by
  unfold bt
  rw [Int32.toBitVec_shiftLeft]
  show (x.toBitVec <<< ((nI n &&& 31).toBitVec.smod 32).toNat).getLsbD i = _
  rw [s_l n hn, BitVec.getLsbD_shiftLeft]
  rcases Nat.lt_or_ge i n with h | h
  · simp [h, Nat.not_le.mpr h]
  · simp [hi, h, Nat.not_lt.mpr h]
theorem b_ushr (n : Nat) (hn : n < 32) (x : Int32) (i : Nat) : bt ((x.toUInt32 >>> ((nI n).toUInt32 &&& Int32.toUInt32 31)).toInt32) i = bt x (n + i) := by
  show (x.toUInt32 >>> ((nI n).toUInt32 &&& Int32.toUInt32 31)).toBitVec.getLsbD i = x.toUInt32.toBitVec.getLsbD (n + i)
  rw [UInt32.toBitVec_shiftRight]
  show (x.toUInt32.toBitVec >>> (((nI n).toUInt32 &&& Int32.toUInt32 31).toBitVec % 32).toNat).getLsbD i = _
  rw [s_u n hn, BitVec.getLsbD_ushiftRight]
theorem b_sshr (n : Nat) (hn : n < 32) (x : Int32) {i : Nat} (hi : i < 32) : bt (x >>> (nI n &&& 31)) i = if n + i < 32 then bt x (n + i) else bt x 31 := by
  unfold bt
  rw [Int32.toBitVec_shiftRight]
  show (x.toBitVec.sshiftRight ((nI n &&& 31).toBitVec.smod 32).toNat).getLsbD i = _
  rw [s_l n hn, BitVec.getLsbD_sshiftRight, BitVec.msb_eq_getLsbD_last]
  simp [hi]
theorem b_1 : ∀ i, i < 32 → bt 1 i = decide (i = 0) := by decide +kernel
theorem and1 (x : Int32) : x &&& 1 = if bt x 0 = true then 1 else 0 := by
  apply b_ext
  intro i hi
  rw [b_and, b_1 i hi]
  by_cases h0 : i = 0
  · subst h0
    cases h : bt x 0
    · simp [b_0]
    · simp [b_1 0 (by decide)]
  · by_cases h : bt x 0 = true <;> simp [h, h0, b_0, b_1 i hi]
/-- a bit asked for -/
theorem sh1 {k : Nat} (hk : k < 32) (x : Int32) : (x >>> (nI k &&& 31)) &&& 1 = if bt x k = true then 1 else 0 := by
  have h := b_sshr k hk x (i := 0) (by decide)
  rw [if_pos (show k + 0 < 32 by omega), Nat.add_zero] at h
  rw [and1, h]
theorem ush1 {k : Nat} (hk : k < 32) (x : Int32) : ((x.toUInt32 >>> ((nI k).toUInt32 &&& Int32.toUInt32 31)).toInt32) &&& 1 = if bt x k = true then 1 else 0 := by
  rw [and1, b_ushr k hk x, Nat.add_zero]
theorem sh1_0 {k : Nat} (hk : k < 32) (x : Int32) : ((x >>> (nI k &&& 31)) &&& 1 = 0) ↔ bt x k = false := by
  rw [sh1 hk]; cases bt x k <;> simp
theorem sh1_1 {k : Nat} (hk : k < 32) (x : Int32) : ((x >>> (nI k &&& 31)) &&& 1 = 1) ↔ bt x k = true := by
  rw [sh1 hk]; cases bt x k <;> simp
theorem ush1_0 {k : Nat} (hk : k < 32) (x : Int32) : (((x.toUInt32 >>> ((nI k).toUInt32 &&& Int32.toUInt32 31)).toInt32) &&& 1 = 0) ↔ bt x k = false := by
  rw [ush1 hk]; cases bt x k <;> simp
/-- one bit -/
theorem b_one {k : Nat} (hk : k < 32) {i : Nat} (hi : i < 32) : bt (1 <<< (nI k &&& 31)) i = decide (i = k) := by
  rw [b_shl k hk 1 hi, b_1 _ (by omega)]
  by_cases h : i = k
  · simp [h]
  · by_cases h2 : k ≤ i
    · simp [h, h2]; omega
    · simp [h, h2]
theorem ush_0 {k : Nat} (hk : k < 32) {x : Int32} (h : (x.toUInt32 >>> ((nI k).toUInt32 &&& Int32.toUInt32 31)).toInt32 = 0) {i : Nat} (hi : k ≤ i) : bt x i = false := by
  have := b_ushr k hk x (i - k)
  rw [h, b_0] at this
  rw [show i = k + (i - k) by omega]; exact this.symm
theorem b_0x {x : Int32} : x = 0 ↔ ∀ i, i < 32 → bt x i = false := ⟨fun h i _ => by rw [h, b_0], fun h => b_ext (fun i hi => by rw [h i hi, b_0])⟩
theorem sGt_bt {S : sR} {k : Nat} (hk : k < 32) : sGt S k ↔ bt (S 64) k = true := sh1_1 hk (S 64)
theorem sTh_bt {th : Int32} {a : Nat} (hk : a < 32) : sTh th a ↔ bt th a = true := by unfold sTh; rw [sh1_0 hk]; cases bt th a <;> simp
/-- the bits of a WAY -/
theorem b_bitsW : ∀ (W : List Nat) (b : Int32) (i : Nat), (∀ k ∈ W, k < 32) → i < 32 → bt (bitsW W b) i = (bt b i || decide (i ∈ W)) := by
  intro W
  induction W with
  | nil => intro b i _ _; simp [bitsW]
  | cons k W ih =>
    intro b i hW hi
    unfold bitsW
    rw [ih _ i (fun k hk => hW k (List.mem_cons_of_mem _ hk)) hi, b_or, b_one (hW k List.mem_cons_self) hi, Bool.or_assoc]
    congr 1
    by_cases h : i = k <;> simp [h]
/-! what a LAW says, by numbers -/
/-- od in a class's row: the RATE on odd ROADS, never below 0 -/
theorem rtC_sRt {S : sR} {od : Int32} (h : 0 ≤ od.toInt) (k : Nat) : rtC S od k = sRt S od k := by
  unfold rtC sRt
  have h0 : ¬ od < 0 := by rw [i32_lt, show (0 : Int32).toInt = 0 from rfl]; omega
  rw [if_neg h0]
theorem lawN_A {T : sT} {Lw : Nat → sLaw} {S : sR} {lots od : Int32} {q a k n f r w : Nat} (hq : q < 2) (hw : wfL (Lw q)) (hn : S 67 = nI n) (hf : sFg T S lots = nI f) (hr : sRt S od k = nI r) (hk : S k = nI w) : lawN T Lw q a k n f r w = lawV (vrA T S lots od a k) (Lw q) 99 := by
  unfold lawN lawV
  have h1 : most q = 99 := by unfold most; rw [if_neg (by omega)]
  rw [h1]
  congr 1
  refine lE_congr (fun i hi => ?_) _ hw
  have h2 : vsQ q = vsA := by unfold vsQ; rw [if_neg (by omega)]
  unfold vrV vrA vrN
  rw [h2, if_pos (by simp [vsA, hi]), hn, hf, hr, hk]
theorem lawN_B {T : sT} {Lw : Nat → sLaw} {S : sR} {a k n f r w : Nat} (hw : wfL (Lw 2)) (hn : S 67 = nI n) : lawN T Lw 2 a k n f r w = sBears T Lw S k := by
  unfold lawN sBears lawV
  show sHeld 999 _ = _
  congr 1
  refine lE_congr (fun i hi => ?_) _ hw
  show vrV vsB _ i = _
  unfold vrV vrB vrN
  rw [hn]
  have h9 : i = 0 ∨ i = 1 ∨ i = 2 ∨ i = 3 ∨ i = 4 ∨ i = 5 ∨ i = 6 ∨ i = 7 ∨ i = 8 := by omega
  rcases h9 with rfl | rfl | rfl | rfl | rfl | rfl | rfl | rfl | rfl <;> rfl
theorem sFg_in {T : sT} {S : sR} {lots : Int32} : ∃ f, f < 2 ∧ sFg T S lots = nI f := by
  unfold sFg sFoggy
  split
  · exact ⟨0, by decide, rfl⟩
  · exact ⟨1, by decide, rfl⟩
/-- a row whose numbers are small: so many nights at most -/
def rgS (S : sR) (B : Nat) : Prop := (∃ n, n ≤ B ∧ S 67 = nI n) ∧ ∀ k, k < 24 → ∃ w, w ≤ 56 * B ∧ S k = nI w
theorem rgS.mono {S : sR} {B B' : Nat} (h : rgS S B) (hb : B ≤ B') : rgS S B' := ⟨by obtain ⟨n, h1, h2⟩ := h.1; exact ⟨n, by omega, h2⟩, fun k hk => by obtain ⟨w, h1, h2⟩ := h.2 k hk; exact ⟨w, by omega, h2⟩⟩
def BB : Nat := 2 ^ 18
/-- RATES as a row of the class has them -/
def rtS (S : sR) (od : Int32) : Prop := (∃ r, r ≤ 9 ∧ S 65 = nI r) ∧ ∃ r, r ≤ 9 ∧ od = nI r
theorem rtS_k {S : sR} {od : Int32} (h : rtS S od) (k : Nat) : ∃ r, r ≤ 9 ∧ rtC S od k = nI r ∧ sRt S od k = nI r := by
  obtain ⟨⟨r, h1, h2⟩, r', h3, h4⟩ := h
  have h0 : 0 ≤ od.toInt := by rw [h4, nI_toInt (by omega)]; omega
  rw [rtC_sRt h0]
  have : sRt S od k = rtC S od k := (rtC_sRt h0 k).symm
  rw [this]
  unfold rtC
  by_cases hk : k % 2 = 1
  · rw [if_pos hk]; exact ⟨r', h3, h4, h4⟩
  · rw [if_neg hk]; exact ⟨r, h1, h2, h2⟩
theorem rg_ky {S : sR} {T : sT} {lots od : Int32} {B k : Nat} (h : rgS S B) (hB : B ≤ BB) (hr : rtS S od) (hk : k < 12) : ∃ n f r w, kyR n f r w ∧ S 67 = nI n ∧ sFg T S lots = nI f ∧ rtC S od k = nI r ∧ sRt S od k = nI r ∧ S k = nI w := by
  obtain ⟨n, h1, h2⟩ := h.1
  obtain ⟨w, h3, h4⟩ := h.2 k (by omega)
  obtain ⟨r, h5, h6, h7⟩ := rtS_k hr k
  obtain ⟨f, h8, h9⟩ := sFg_in (T := T) (S := S) (lots := lots)
  unfold BB at hB
  exact ⟨n, f, r, w, ⟨by omega, h8, by omega, by omega⟩, h2, h9, h6, h7, h4⟩
