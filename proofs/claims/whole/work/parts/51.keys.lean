/-! THE CLASS: the keys by which a LAW keeps what it said -/
def ky (night fog rate wear : Nat) : Nat := night * 2 ^ 32 + fog * 2 ^ 28 + rate * 2 ^ 24 + wear
def mkB (b3 b4 b6 b8 : Bool) : Int64 := (((if b3 then 268435456 else 0) ||| (if b4 then 251658240 else 0)) ||| (if b6 then 16777215 else 0)) ||| (if b8 then (-4294967296) else 0)
def kyR (night fog rate wear : Nat) : Prop := night < 2 ^ 30 ∧ fog < 2 ∧ rate < 16 ∧ wear < 2 ^ 24
theorem mkB_bit : ∀ (b3 b4 b6 b8 : Bool) (i : Fin 64), (mkB b3 b4 b6 b8).toBitVec.getLsbD i.val = ((b3 && decide (i.val = 28)) || (b4 && (decide (24 ≤ i.val) && decide (i.val < 28))) || (b6 && decide (i.val < 24)) || (b8 && decide (32 ≤ i.val))) := by decide +kernel
theorem lN_bit (n i : Nat) (hi : i < 64) : (lN n).toBitVec.getLsbD i = n.testBit i := by
  show (BitVec.ofNat 64 n).getLsbD i = n.testBit i
  rw [BitVec.getLsbD_ofNat]; simp [hi]
theorem and_bit {x m : Int64} {i : Nat} : (x &&& m).toBitVec.getLsbD i = (x.toBitVec.getLsbD i && m.toBitVec.getLsbD i) := by
  rw [Int64.toBitVec_and, BitVec.getLsbD_and]
theorem key_ne {n : Nat} {b3 b4 b6 b8 : Bool} : ¬ lN n &&& mkB b3 b4 b6 b8 = -1 := by
  intro h
  have h1 : (lN n &&& mkB b3 b4 b6 b8).toBitVec.getLsbD 30 = (-1 : Int64).toBitVec.getLsbD 30 := by rw [h]
  rw [and_bit, mkB_bit b3 b4 b6 b8 ⟨30, by decide⟩] at h1
  simp at h1
theorem slice_eq {n m a c : Nat} (h : ∀ i, i < c → n.testBit (a + i) = m.testBit (a + i)) : n / 2 ^ a % 2 ^ c = m / 2 ^ a % 2 ^ c := by
  apply Nat.eq_of_testBit_eq
  intro i
  rw [Nat.testBit_mod_two_pow, Nat.testBit_mod_two_pow, Nat.testBit_div_two_pow, Nat.testBit_div_two_pow]
  by_cases hi : i < c
  · have := h i hi
    simp [hi, this, Nat.add_comm]
  · simp [hi]
theorem key_bits {n m : Nat} {b3 b4 b6 b8 : Bool} (h : lN n &&& mkB b3 b4 b6 b8 = lN m &&& mkB b3 b4 b6 b8) (i : Nat) (hi : i < 64) (hm : (mkB b3 b4 b6 b8).toBitVec.getLsbD i = true) : n.testBit i = m.testBit i := by
  have h1 : (lN n &&& mkB b3 b4 b6 b8).toBitVec.getLsbD i = (lN m &&& mkB b3 b4 b6 b8).toBitVec.getLsbD i := by rw [h]
  rw [and_bit, and_bit, hm, Bool.and_true, Bool.and_true, lN_bit n i hi, lN_bit m i hi] at h1
  exact h1
theorem ky_parts {night fog rate wear : Nat} (h : kyR night fog rate wear) : ky night fog rate wear / 2 ^ 28 % 2 ^ 1 = fog ∧ ky night fog rate wear / 2 ^ 24 % 2 ^ 4 = rate ∧ ky night fog rate wear / 2 ^ 0 % 2 ^ 24 = wear ∧ ky night fog rate wear / 2 ^ 32 % 2 ^ 30 = night := by
  obtain ⟨h1, h2, h3, h4⟩ := h
  unfold ky
  refine ⟨?_, ?_, ?_, ?_⟩ <;> omega
theorem key_inj {n1 f1 r1 w1 n2 f2 r2 w2 : Nat} (h1 : kyR n1 f1 r1 w1) (h2 : kyR n2 f2 r2 w2) {b3 b4 b6 b8 : Bool} (h : lN (ky n1 f1 r1 w1) &&& mkB b3 b4 b6 b8 = lN (ky n2 f2 r2 w2) &&& mkB b3 b4 b6 b8) : (b3 = true → f1 = f2) ∧ (b4 = true → r1 = r2) ∧ (b6 = true → w1 = w2) ∧ (b8 = true → n1 = n2) := by
  have p1 := ky_parts h1
  have p2 := ky_parts h2
  refine ⟨fun hb => ?_, fun hb => ?_, fun hb => ?_, fun hb => ?_⟩
  · rw [← p1.1, ← p2.1]
    refine slice_eq (fun i hi => key_bits h _ (by omega) ?_)
    rw [mkB_bit b3 b4 b6 b8 ⟨28 + i, by omega⟩, hb]
    have : i = 0 := by omega
    simp [this]
  · rw [← p1.2.1, ← p2.2.1]
    refine slice_eq (fun i hi => key_bits h _ (by omega) ?_)
    rw [mkB_bit b3 b4 b6 b8 ⟨24 + i, by omega⟩, hb]
    simp [show 24 + i < 28 by omega]
  · rw [← p1.2.2.1, ← p2.2.2.1]
    refine slice_eq (fun i hi => key_bits h _ (by omega) ?_)
    rw [mkB_bit b3 b4 b6 b8 ⟨0 + i, by omega⟩, hb]
    simp [hi]
  · rw [← p1.2.2.2, ← p2.2.2.2]
    refine slice_eq (fun i hi => key_bits h _ (by omega) ?_)
    rw [mkB_bit b3 b4 b6 b8 ⟨32 + i, by omega⟩, hb]
    simp
/-! pasted: g_shl of laws/BITS.to-paste -/
theorem g_shl {a k p : Nat} {y : Int64} (hy : y.toBitVec.smod 64 = BitVec.ofNat 64 k) (hk : k < 64) (hp : 2 ^ k = p) (ha : a < 2 ^ 64) : lN a <<< y = lN (a * p) := by
  subst hp
  apply Int64.toBitVec_inj.mp
  rw [Int64.toBitVec_shiftLeft, hy]
  apply BitVec.eq_of_toNat_eq
  have hb : (lN a).toBitVec.toNat = a := Nat.mod_eq_of_lt ha
  have hk' : (BitVec.ofNat 64 k).toNat = k := Nat.mod_eq_of_lt (by omega)
  have h : ((lN a).toBitVec <<< BitVec.ofNat 64 k).toNat = (a * 2 ^ k) % 2 ^ 64 := by simp only [BitVec.shiftLeft_eq', BitVec.toNat_shiftLeft, hb, hk', Nat.shiftLeft_eq]
  exact h
/-- the key as it is put together -/
theorem key_sum {night fog rate wear : Nat} (h : kyR night fog rate wear) : (lN (night * 2 ^ 32 + fog * 2 ^ 28) + ((nI rate).toInt64 <<< (Int32.toInt64 24 &&& 63))) + (nI wear).toInt64 = lN (ky night fog rate wear) := by
  obtain ⟨h1, h2, h3, h4⟩ := h
  have e1 : (nI rate).toInt64 = lN rate := nI_l (by omega)
  have e2 : (nI wear).toInt64 = lN wear := nI_l (by omega)
  have e3 : lN rate <<< (Int32.toInt64 24 &&& 63) = lN (rate * 2 ^ 24) := g_shl (a := rate) (k := 24) (p := 2 ^ 24) (by decide) (by decide) rfl (by omega)
  rw [e1, e2, e3, lN_add, lN_add]
  rfl
/-! which variables a LAW looks at -/
def uE (e : sE) (i : Nat) : Bool := e.any fun q => q.1 == 1 && q.2.toNatClampNeg == i
def uL (L : sLaw) (i : Nat) : Bool := L.any fun br => uE br.2 i || match br.1 with
  | none => false
  | some uv => uE uv.1 i || uE uv.2 i
theorem rE_uses {vr vr' : Nat → Int32} : ∀ (e : sE), (∀ i, uE e i = true → vr i = vr' i) → ∀ s, rE vr e s = rE vr' e s := by
  intro e
  induction e with
  | nil => intro _ s; rfl
  | cons q e ih =>
    obtain ⟨k, v⟩ := q
    intro h s
    have h' : ∀ i, uE e i = true → vr i = vr' i := fun i hi => h i (by simp only [uE, List.any_cons]; rw [show (e.any fun q => q.1 == 1 && q.2.toNatClampNeg == i) = true from hi]; simp)
    by_cases h0 : k = 0
    · subst h0; simp only [rE, if_true]; exact ih h' _
    · by_cases h1 : k = 1
      · subst h1
        simp only [rE, if_true, show ¬ (1 = 0) from by decide, if_false]
        rw [h v.toNatClampNeg (by simp [uE])]; exact ih h' _
      · simp only [rE, h0, h1, if_false]
        match s with
        | [] => rfl
        | [_] => rfl
        | b :: a :: s' =>
          simp only
          by_cases hz : k = 5 ∧ b = 0
          · simp [hz]
          · simp only [hz, if_false]; exact ih h' _
theorem lE_uses {vr vr' : Nat → Int32} : ∀ (L : sLaw), (∀ i, uL L i = true → vr i = vr' i) → lE vr L = lE vr' L := by
  intro L
  induction L with
  | nil => intro _; rfl
  | cons br L ih =>
    obtain ⟨ts, w⟩ := br
    intro h
    have ht := ih (fun i hi => h i (by simp only [uL, List.any_cons]; rw [show L.any _ = true from hi]; simp))
    have hw : sEv vr w = sEv vr' w := by unfold sEv; rw [rE_uses w (fun i hi => h i (by simp [uL, hi]))]
    cases ts with
    | none => simp only [lE]; exact hw
    | some uv =>
      obtain ⟨u, v⟩ := uv
      have hu : sEv vr u = sEv vr' u := by unfold sEv; rw [rE_uses u (fun i hi => h i (by simp [uL, hi]))]
      have hv : sEv vr v = sEv vr' v := by unfold sEv; rw [rE_uses v (fun i hi => h i (by simp [uL, hi]))]
      simp only [lE, hu, hv, hw, ht]
