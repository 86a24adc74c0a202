/-! WHAT IS ASKED: numbers of ROADS, GHOSTS, answers by them -/
def isN (x : Int32) (n : Nat) : Prop := ∃ k, k < n ∧ x = nI k
noncomputable def gIf (x : Int32) (n : Nat) (f : Nat → Int32) : Int32 := @ite _ (isN x n) (Classical.propDecidable _) (f x.toNatClampNeg) (-1)
theorem gIf_in {n k : Nat} {f : Nat → Int32} (hk : k < n) (hn : n ≤ 2 ^ 31) : gIf (nI k) n f = f k := by
  unfold gIf; rw [if_pos ⟨k, hk, rfl⟩, nI_clamp (by omega)]
theorem gIf_out {x : Int32} {n : Nat} {f : Nat → Int32} (h : ¬ isN x n) : gIf x n f = -1 := if_neg h
theorem isN_of {x : Int32} {n : Nat} (hn : n < 2 ^ 31) (h0 : ¬ x < 0) (h1 : ¬ nI n ≤ x) : isN x n := by
  have e0 : (0 : Int32).toInt = 0 := rfl
  rw [i32_lt, e0] at h0
  rw [i32_le, nI_toInt hn] at h1
  obtain ⟨m, hm⟩ := Int.eq_ofNat_of_zero_le (Int.not_lt.mp h0)
  refine ⟨m, by omega, i32_ext ?_⟩
  rw [nI_toInt (by omega)]; exact hm
theorem isN_lt {x : Int32} {n : Nat} (h : x < 0) (hn : n ≤ 2 ^ 31) : ¬ isN x n := by
  rintro ⟨k, hk, rfl⟩
  have e0 : (0 : Int32).toInt = 0 := rfl
  rw [i32_lt, e0, nI_toInt (by omega)] at h; omega
theorem isN_ge {x : Int32} {n : Nat} (hn : n < 2 ^ 31) (h : nI n ≤ x) : ¬ isN x n := by
  rintro ⟨k, hk, rfl⟩
  rw [i32_le, nI_toInt hn, nI_toInt (by omega)] at h; omega
theorem isN_in {x a b : Int32} {n : Nat} (hn : n < 2 ^ 31) (ha : a = 0) (hb : b = nI n) : (a ≤ x ∧ x ≤ b) ↔ isN x (n + 1) := by
  subst ha
  subst hb
  have e0 : (0 : Int32).toInt = 0 := rfl
  constructor
  · rintro ⟨h1, h2⟩
    rw [i32_le, e0] at h1
    rw [i32_le, nI_toInt hn] at h2
    obtain ⟨m, hm⟩ := Int.eq_ofNat_of_zero_le h1
    refine ⟨m, by omega, i32_ext ?_⟩
    rw [nI_toInt (by omega)]; exact hm
  · rintro ⟨k, hk, rfl⟩
    rw [i32_le, i32_le, e0, nI_toInt hn, nI_toInt (by omega)]; omega
theorem isN_no {x : Int32} {n : Nat} (hn : n < 2 ^ 31) (h1 : ¬ x < 0) (h2 : ¬ nI n < x) : isN x (n + 1) := (isN_in (a := 0) (b := nI n) hn rfl rfl).mp ⟨by rw [i32_lt] at h1; rw [i32_le]; omega, by rw [i32_lt] at h2; rw [i32_le]; omega⟩
theorem isN_gt {x : Int32} {n : Nat} (hn : n < 2 ^ 31) (h : nI n < x) : ¬ isN x (n + 1) := by
  rintro ⟨k, hk, rfl⟩
  rw [i32_lt, nI_toInt hn, nI_toInt (by omega)] at h; omega
/-! THE REFERENCE: what its calls begin with -/
/-- the row that is now, in the reference -/
def mNow (μ : jM) (v : Nat) (T : sT) (Lw : Nat → sLaw) (S : sR) : Prop := txM μ v T Lw ∧ μ.1 151 = S ∧ (∀ i, 68 ≤ i → μ.1 152 i = 0) ∧ (∀ i, 68 ≤ i → S i = 0) ∧ ∃ r, r ≤ 9 ∧ S 65 = nI r
/-- cells and fields that asking writes -/
def mQC : List Nat := [149, 150, 152, 153, 154, 155, 156, 158, 162, 163, 164]
def mQF : List Nat := [55, 58, 59, 60, 65, 68, 69]
def mQ (μ μ' : jM) : Prop := mOff mQC mQF μ μ' ∧ ∀ i, 68 ≤ i → μ'.1 152 i = 0
theorem mQ_no : noTx mQC mQF := ⟨by decide, by decide⟩
theorem mQ.refl {μ : jM} (h : ∀ i, 68 ≤ i → μ.1 152 i = 0) : mQ μ μ := ⟨mOff.refl, h⟩
theorem mQ.trans {μ μ1 μ2 : jM} (h1 : mQ μ μ1) (h2 : mQ μ1 μ2) : mQ μ μ2 := ⟨h1.1.trans h2.1, h2.2⟩
theorem mQ.now {μ μ' : jM} {v : Nat} {T : sT} {Lw : Nat → sLaw} {S : sR} (h : mQ μ μ') (hm : mNow μ v T Lw S) : mNow μ' v T Lw S := by
  obtain ⟨h1, h2, h3, h4, h5⟩ := hm
  exact ⟨txM_off h.1 mQ_no h1, by rw [h.1.c 151 (by decide) (by decide)]; exact h2, h.2, h4, h5⟩
theorem rt_ok {S : sR} (h : ∃ r, r ≤ 9 ∧ S 65 = nI r) : rtOK S (-1) := by
  obtain ⟨r, hr, e⟩ := h
  unfold rtOK
  rw [e, nI_toInt (by omega)]
  have : (-1 : Int32).toInt = -1 := rfl
  omega
/-- a row taken up, plainly -/
def mRow (μ : jM) (T : sT) (S : sR) : Prop := μ.1 152 = S ∧ μ.1 112 58 = nI (T 0 7) ∧ μ.1 112 59 = 127 ∧ μ.1 112 60 = -1
theorem sNA_hi {T : sT} {Lw : Nat → sLaw} (hv : vT T Lw) {lots od th : Int32} {a i : Nat} {S : sR} (ha : a < T 0 2) (hi : 68 ≤ i) : sNA T Lw lots od th a S i = S i := by
  have h7 := hv.1.2.2.1
  have h12 := hv.1.2.1
  have go : ∀ (W : List Nat) (ow : Nat → Int32) (c : Int32) (S : sR), (∀ k ∈ W, k < 12) → sGo T ow a W c S i = S i := by
    intro W ow
    induction W with
    | nil => intro c S _; rfl
    | cons k W ih =>
      intro c S hW
      have hk := hW k List.mem_cons_self
      unfold sGo
      rw [ih _ _ (fun j hj => hW j (List.mem_cons_of_mem _ hj))]
      unfold sG1
      split
      · rw [addR_ne (by omega), addR_ne (by omega), addR_ne (by omega), addR_ne (by omega), addR_ne (by omega), addR_ne (by omega)]
      · rw [addR_ne (by omega), addR_ne (by omega), addR_ne (by omega), addR_ne (by omega)]
  unfold sNA
  split
  · split
    · next h => rw [go _ _ _ _ (fun k hk => by have := (sWl_in hv h).2 k hk; omega), addR_ne (by omega)]
    · rw [addR_ne (by omega)]
  · rfl
theorem sNs_hi {T : sT} {Lw : Nat → sLaw} (hv : vT T Lw) {lots od th : Int32} {i : Nat} {S : sR} (hi : 68 ≤ i) : ∀ n, n ≤ T 0 2 → sNs T Lw lots od th n S i = S i := by
  intro n
  induction n with
  | zero => intro _; rfl
  | succ n ih => intro h; unfold sNs; rw [sNA_hi hv (by omega) hi, ih (by omega)]
theorem sNt_hi {T : sT} {Lw : Nat → sLaw} (hv : vT T Lw) {lots od th : Int32} {i : Nat} {S : sR} (hi : 68 ≤ i) : sNt T Lw lots od th S i = S i := by
  unfold sNt; rw [addR_ne (by omega), sNs_hi hv hi _ (Nat.le_refl _)]
theorem sNn_hi {T : sT} {Lw : Nat → sLaw} (hv : vT T Lw) {lots od th : Int32} {i : Nat} {S : sR} (hi : 68 ≤ i) : ∀ n, sNn T Lw lots od th n S i = S i := by
  intro n
  induction n with
  | zero => rfl
  | succ n ih => unfold sNn; rw [sNt_hi hv hi, ih]
section ModB
variable {l : Launch} {G : jG}
theorem c_X12_plainly (hG : gMM G) {μ : jM} (hP : gNN μ) {v : Nat} {T : sT} {Lw : Nat → sLaw} (ht : txM μ v T Lw) : jC0 l mX12_plainly 0 G [.ref 112] μ (pV fun μ' => mOff [] [58, 59, 60] μ μ' ∧ μ'.1 112 58 = nI (T 0 7) ∧ μ'.1 112 59 = 127 ∧ μ'.1 112 60 = -1) := by
  refine jC0.of' (ls := [.ref 112]) rfl rfl rfl (fun _ _ => Nat.le_of_ble_eq_true rfl) ?_
  have hl := ht.1.2
  refine b_X12_plainly_0 hG hP (ix_in hl ht.1.1 (by decide)) ?_
  rw [ix_cl hl (by have := ht.1.1; omega), ht.2.1.2.2.2.2.2.2.2]
  refine ⟨((mOff_wF (μ := μ) (by decide)).trans (mOff_wF (by decide))).trans (mOff_wF (by decide)), ?_, ?_, ?_⟩
  · rw [wI_off' (by decide), wI_off' (by decide), wI_at]
  · rw [wI_off' (by decide), wI_at]
  · rw [wI_at]
theorem c_X12_copies (hG : gMM G) {μ : jM} (hP : gNN μ) {v : Nat} {T : sT} {Lw : Nat → sLaw} {S : sR} (hm : mNow μ v T Lw S) : jC0 l mX12_copies 1 G [.ref 112] μ (pV fun μ' => mQ μ μ' ∧ mNow μ' v T Lw S ∧ mRow μ' T S ∧ gNN μ' ∧ mOff [152] [58, 59, 60] μ μ') := by
  refine jC0.of' (ls := [.ref 112, .null]) rfl rfl rfl (fun _ _ => Nat.le_of_ble_eq_true rfl) ?_
  obtain ⟨ht, h1, h2, h3, h5⟩ := id hm
  refine b_X12_copies_0 hG hP ?_
  have loop : ∀ i, i ≤ 68 → ∀ μ1, mOff [152] [] μ μ1 → (∀ j, j < i → μ1.1 152 j = S j) → (∀ j, 68 ≤ j → μ1.1 152 j = 0) → J l mX12_copies (jZ0 1 G (pV fun μ' => mQ μ μ' ∧ mNow μ' v T Lw S ∧ mRow μ' T S ∧ gNN μ' ∧ mOff [152] [58, 59, 60] μ μ')) G 0 0 2 [.ref 112, .int (nI i)] [] μ1 := by
    refine up_loop 68 ?_ (fun i hi ih => ?_)
    · intro μ1 ho hr hz
      have hP1 := ho.gNN hP
      have hS : μ1.1 152 = S := by
        funext j
        by_cases h : j < 68
        · exact hr j h
        · rw [hz j (by omega), h3 j (by omega)]
      refine b_X12_copies_2 hG hP1 (fun _ => c_X12_plainly hG hP1 (txM_off ho ⟨by decide, by decide⟩ ht)) (fun _ => ?_) (fun h => absurd (by decide) h) (fun h => absurd (by decide) h)
      rintro μ2 ⟨ho2, g1, g2, g3⟩
      have hq : mQ μ μ2 := ⟨(ho.mono (by decide) (by decide)).trans (ho2.mono (by decide) (by decide)), fun j hj => by rw [ho2.c 152 (by decide) (by decide)]; exact hz j hj⟩
      refine b_X12_copies_30 hG (ho2.gNN hP1) ⟨hq, hq.now hm, ⟨by rw [ho2.c 152 (by decide) (by decide)]; exact hS, g1, g2, g3⟩, ho2.gNN hP1, (ho.mono (by decide) (by decide)).trans (ho2.mono (by decide) (by decide))⟩
    · intro μ1 ho hr hz
      have ci : (nI i).toNatClampNeg = i := nI_clamp (by omega)
      refine b_X12_copies_2 (ψ0 := fun _ => True) hG (ho.gNN hP) (fun h => absurd h (nI_ge (b := 68) hi (by decide))) (fun h => absurd h (nI_ge (b := 68) hi (by decide))) (fun _ => vp_in_nI hi (by decide)) (fun _ => ?_)
      rw [ci, nI_inc, ho.c 151 (by decide) (by decide), h1]
      refine ih _ (ho.trans (mOff_wC (by decide) (by decide))) (fun j hj => ?_) (fun j hj => ?_)
      · by_cases e : j = i
        · rw [e, wI_at]
        · rw [wI_off' e]; exact hr j (by omega)
      · rw [wI_off' (by omega)]; exact hz j hj
  exact loop 0 (by omega) μ mOff.refl (fun j hj => by omega) h2
theorem c_X12_keepsRow (hG : gMM G) {μ : jM} (hP : gNN μ) (hz : ∀ i, 68 ≤ i → μ.1 151 i = μ.1 152 i) : jC0 l mX12_keepsRow 0 G [.ref 112] μ (pV fun μ' => mOff [151] [] μ μ' ∧ μ'.1 151 = μ.1 152) := by
  refine jC0.of' (ls := [.ref 112, .null]) rfl rfl rfl (fun _ _ => Nat.le_of_ble_eq_true rfl) ?_
  refine b_X12_keepsRow_0 hG hP ?_
  have loop : ∀ i, i ≤ 68 → ∀ μ1, mOff [151] [] μ μ1 → (∀ j, j < i ∨ 68 ≤ j → μ1.1 151 j = μ.1 152 j) → J l mX12_keepsRow (jZ0 0 G (pV fun μ' => mOff [151] [] μ μ' ∧ μ'.1 151 = μ.1 152)) G 0 0 2 [.ref 112, .int (nI i)] [] μ1 := by
    refine up_loop 68 ?_ (fun i hi ih => ?_)
    · intro μ1 ho hr
      exact b_X12_keepsRow_2 hG (ho.gNN hP) (fun _ => ⟨ho, funext (fun j => hr j (by omega))⟩) (fun h => absurd (by decide) h) (fun h => absurd (by decide) h)
    · intro μ1 ho hr
      have ci : (nI i).toNatClampNeg = i := nI_clamp (by omega)
      refine b_X12_keepsRow_2 hG (ho.gNN hP) (fun h => absurd h (nI_ge (b := 68) hi (by decide))) (fun _ => vp_in_nI hi (by decide)) (fun _ => ?_)
      rw [ci, nI_inc, ho.c 152 (by decide) (by decide)]
      refine ih _ (ho.trans (mOff_wC (by decide) (by decide))) (fun j hj => ?_)
      by_cases e : j = i
      · rw [e, wI_at]
      · rw [wI_off' e]; exact hr j (by omega)
  exact loop 0 (by omega) μ mOff.refl (fun j hj => hz j (by omega))
theorem c_X12_begins (hG : gMM G) {μ : jM} (hP : gNN μ) {v : Nat} {T : sT} {Lw : Nat → sLaw} (ht : txM μ v T Lw) (hz : ∀ i, 68 ≤ i → μ.1 152 i = 0) : jC0 l mX12_begins 1 G [.ref 112] μ (pV fun μ' => mOff [152] [58, 59, 60] μ μ' ∧ mRow μ' T (sBg T)) := by
  refine jC0.of' (ls := [.ref 112, .null]) rfl rfl rfl (fun _ _ => Nat.le_of_ble_eq_true rfl) ?_
  have hl := ht.1.2
  have hv2 := ht.1.1
  refine b_X12_begins_0 hG hP ?_
  have loop : ∀ i, i ≤ 68 → ∀ μ1, mOff [152] [] μ μ1 → (∀ j, j < i ∨ 68 ≤ j → μ1.1 152 j = 0) → J l mX12_begins (jZ0 1 G (pV fun μ' => mOff [152] [58, 59, 60] μ μ' ∧ mRow μ' T (sBg T))) G 0 0 2 [.ref 112, .int (nI i)] [] μ1 := by
    refine up_loop 68 ?_ (fun i hi ih => ?_)
    · intro μ1 ho hr
      have hP1 := ho.gNN hP
      have hl1 : μ1.1 112 18 = nI v := by rw [ho.f 18 (by decide)]; exact hl
      have e128 : μ1.1 128 (μ1.1 112 18).toNatClampNeg = nI (T 0 3) := by
        rw [ix_cl hl1 (by omega), ho.c 128 (by decide) (by decide)]; exact ht.2.1.2.2.2.1
      have ho2 : mOff [152] [] μ (wI (wI μ1 152 64 (nI (T 0 3))) 152 65 1) := (ho.trans (mOff_wC (by decide) (by decide))).trans (mOff_wC (by decide) (by decide))
      have hS : (wI (wI μ1 152 64 (nI (T 0 3))) 152 65 1).1 152 = sBg T := by
        rw [wI_eq, wI_eq]
        unfold sBg
        congr 2
        funext j
        exact hr j (by omega)
      refine b_X12_begins_2 hG hP1 (fun _ => ix_in hl1 hv2 (by decide)) (fun _ => by rw [e128]; exact c_X12_plainly (μ := wI (wI μ1 152 64 (nI (T 0 3))) 152 65 1) hG (ho2.gNN hP) (txM_off ho2 ⟨by decide, by decide⟩ ht)) (fun _ => ?_) (fun h => absurd (by decide) h) (fun h => absurd (by decide) h)
      rintro μ2 ⟨ho3, g1, g2, g3⟩
      exact b_X12_begins_49 hG (ho3.gNN (ho2.gNN hP)) ⟨(ho2.mono (by decide) (by decide)).trans (ho3.mono (by decide) (by decide)), by rw [ho3.c 152 (by decide) (by decide)]; exact hS, g1, g2, g3⟩
    · intro μ1 ho hr
      have ci : (nI i).toNatClampNeg = i := nI_clamp (by omega)
      refine b_X12_begins_2 (ψ0 := fun _ => True) hG (ho.gNN hP) (fun h => absurd h (nI_ge (b := 68) hi (by decide))) (fun h => absurd h (nI_ge (b := 68) hi (by decide))) (fun h => absurd h (nI_ge (b := 68) hi (by decide))) (fun _ => vp_in_nI hi (by decide)) (fun _ => ?_)
      rw [ci, nI_inc]
      refine ih _ (ho.trans (mOff_wC (by decide) (by decide))) (fun j hj => ?_)
      by_cases e : j = i
      · rw [e, wI_at]
      · rw [wI_off' e]; exact hr j (by omega)
  exact loop 0 (by omega) μ mOff.refl (fun j hj => hz j (by omega))
theorem nI_m1_le {x : Int32} {n : Nat} (hn : n < 2 ^ 31) : (0 ≤ x ∧ x ≤ nI n - 1) ↔ isN x n := by
  cases n with
  | zero =>
    constructor
    · rintro ⟨h1, h2⟩
      have e0 : (0 : Int32).toInt = 0 := rfl
      have e1 : (nI 0 - 1 : Int32).toInt = -1 := rfl
      rw [i32_le, e0] at h1
      rw [i32_le, e1] at h2
      omega
    · rintro ⟨k, hk, -⟩; omega
  | succ n =>
    have : nI (n + 1) - 1 = nI n := by rw [Int32.sub_eq_add_neg, nI_dec]
    rw [this]
    exact isN_in (by omega) rfl rfl
theorem c_X12_isRoad (hG : gMM G) {μ : jM} (hP : gNN μ) {v : Nat} {T : sT} {Lw : Nat → sLaw} (ht : txM μ v T Lw) (x : Int32) : jC0 l mX12_isRoad 1 G [.ref 112, .int x] μ (pI fun z μ' => μ' = μ ∧ ((z = 1 ∧ isN x (T 0 1)) ∨ (z = 0 ∧ ¬ isN x (T 0 1)))) := by
  refine jC0.of' (ls := [.ref 112, .int x]) rfl rfl rfl (fun _ _ => Nat.le_of_ble_eq_true rfl) ?_
  have hl := ht.1.2
  have h12 := ht.2.2.2.2.2.1.2.1
  have e : μ.1 123 (μ.1 112 18).toNatClampNeg = nI (T 0 1) := by rw [ix_cl hl (by have := ht.1.1; omega)]; exact ht.2.1.2.1
  refine b_X12_isRoad_0 hG hP (ix_in hl ht.1.1 (by decide)) (c_X12_in hG hP _ _ _) ?_
  rw [e]
  rintro z μ1 ⟨rfl, rfl⟩
  have hi := nI_m1_le (x := x) (n := T 0 1) (by omega)
  by_cases h : 0 ≤ x ∧ x ≤ nI (T 0 1) - 1
  · rw [if_pos h]; exact b_X12_isRoad_16 hG hP ⟨rfl, Or.inl ⟨rfl, hi.mp h⟩⟩ (Or.inr rfl)
  · rw [if_neg h]; exact b_X12_isRoad_16 hG hP ⟨rfl, Or.inr ⟨rfl, fun z => h (hi.mpr z)⟩⟩ (Or.inl rfl)
theorem c_X12_isGhost (hG : gMM G) {μ : jM} (hP : gNN μ) {v : Nat} {T : sT} {Lw : Nat → sLaw} (ht : txM μ v T Lw) (x : Int32) : jC0 l mX12_isGhost 1 G [.ref 112, .int x] μ (pI fun z μ' => μ' = μ ∧ ((z = 1 ∧ isN x (T 0 2)) ∨ (z = 0 ∧ ¬ isN x (T 0 2)))) := by
  refine jC0.of' (ls := [.ref 112, .int x]) rfl rfl rfl (fun _ _ => Nat.le_of_ble_eq_true rfl) ?_
  have hl := ht.1.2
  have h12 := ht.2.2.2.2.2.1.2.2.1
  have e : μ.1 129 (μ.1 112 18).toNatClampNeg = nI (T 0 2) := by rw [ix_cl hl (by have := ht.1.1; omega)]; exact ht.2.1.2.2.1
  refine b_X12_isGhost_0 hG hP (ix_in hl ht.1.1 (by decide)) (c_X12_in hG hP _ _ _) ?_
  rw [e]
  rintro z μ1 ⟨rfl, rfl⟩
  have hi := nI_m1_le (x := x) (n := T 0 2) (by omega)
  by_cases h : 0 ≤ x ∧ x ≤ nI (T 0 2) - 1
  · rw [if_pos h]; exact b_X12_isGhost_16 hG hP ⟨rfl, Or.inl ⟨rfl, hi.mp h⟩⟩ (Or.inr rfl)
  · rw [if_neg h]; exact b_X12_isGhost_16 hG hP ⟨rfl, Or.inr ⟨rfl, fun z => h (hi.mpr z)⟩⟩ (Or.inl rfl)
theorem c_X12_inN (hG : gMM G) {μ : jM} (hP : gNN μ) (x : Int32) {b : Int32} {n : Nat} (hb : b = nI n) (hn : n < 2 ^ 31) : jC0 l mX12_in 0 G [.int x, .int 0, .int b] μ (pI fun z μ' => μ' = μ ∧ ((z = 1 ∧ isN x (n + 1)) ∨ (z = 0 ∧ ¬ isN x (n + 1)))) := by
  refine (c_X12_in hG hP x 0 b).mono (pI_mono ?_)
  rintro z μ' ⟨rfl, rfl⟩
  have hi := isN_in (x := x) (a := 0) (b := b) hn rfl hb
  by_cases h : 0 ≤ x ∧ x ≤ b
  · rw [if_pos h]; exact ⟨rfl, Or.inl ⟨rfl, hi.mp h⟩⟩
  · rw [if_neg h]; exact ⟨rfl, Or.inr ⟨rfl, fun z => h (hi.mpr z)⟩⟩
theorem c_X12_moreIn (hG : gMM G) {μ : jM} (hP : gNN μ) {c m : Nat} (hcm : c + m ≤ 68) {x y : Int32} (hx : x = nI c) (hy : y = nI m) : jC0 l mX12_moreIn 0 G [.ref 112, .int x, .int y] μ (pI fun z μ' => μ' = μ ∧ z = dfs (μ.1 152) (μ.1 151) c m) := by
  subst hx
  subst hy
  refine jC0.of' (ls := [.ref 112, .int (nI c), .int (nI m), .null, .null]) rfl rfl rfl (fun _ _ => Nat.le_of_ble_eq_true rfl) ?_
  refine b_X12_moreIn_0 hG hP ?_
  have loop : ∀ i, i ≤ m → J l mX12_moreIn (jZ0 0 G (pI fun z μ' => μ' = μ ∧ z = dfs (μ.1 152) (μ.1 151) c m)) G 0 0 5 [.ref 112, .int (nI c), .int (nI m), .int (dfs (μ.1 152) (μ.1 151) c i), .int (nI (c + i))] [] μ := by
    refine up_loop m ?_ (fun i hi ih => ?_)
    · have hle : nI c + nI m ≤ nI (c + m) := by rw [nI_add]; exact nI_le (Nat.le_refl _) (by omega)
      exact b_X12_moreIn_5 hG hP (fun _ => ⟨rfl, rfl⟩) (fun h => absurd hle h) (fun h => absurd hle h)
    · have hgt : ¬ nI c + nI m ≤ nI (c + i) := by rw [nI_add]; exact nI_ge (by omega) (by omega)
      refine b_X12_moreIn_5 hG hP (fun h => absurd h hgt) (fun _ => vp_in_nI (by omega) (by decide)) (fun _ => ?_)
      rw [nI_inc, nI_clamp (by omega)]
      exact ih
  exact loop 0 (by omega)
/-- nights go on from the row taken up -/
theorem q_goes (hG : gMM G) {μ : jM} (hP : gNN μ) {v n : Nat} {T : sT} {Lw : Nat → sLaw} {S E : sR} {od : Int32} (hm : mNow μ v T Lw S) (hr : μ.1 152 = E) (he : ∀ i, 68 ≤ i → E i = 0) (hod : μ.1 112 60 = od) (hrt : rtOK E od) (hn : n < 2 ^ 31) : jC0 l mX12_goes 8 G [.ref 112, .int (nI n)] μ (pV fun μ' => mQ μ μ' ∧ mNow μ' v T Lw S ∧ gNN μ' ∧ mOff mNC mNF μ μ' ∧ μ'.1 152 = sNn T Lw (μ.1 112 58) od (μ.1 112 59) n E) := by
  refine (c_X12_goes hG hP hm.1 (by rw [hr, hod]; exact hrt) hn).mono (pV_mono ?_)
  rintro μ' ⟨h1, h2⟩
  rw [hr, hod] at h2
  have hq : mQ μ μ' := ⟨h1.mono (by decide) (by decide), fun i hi => by rw [h2, sNn_hi hm.1.2.2.2.2.2 hi]; exact he i hi⟩
  exact ⟨hq, hq.now hm, h1.gNN hP, h1, h2⟩
theorem q_night (hG : gMM G) {μ : jM} (hP : gNN μ) {v : Nat} {T : sT} {Lw : Nat → sLaw} {S E : sR} {od : Int32} (hm : mNow μ v T Lw S) (hr : μ.1 152 = E) (he : ∀ i, 68 ≤ i → E i = 0) (hod : μ.1 112 60 = od) (hrt : rtOK E od) : jC0 l mX12_nightGoes 7 G [.ref 112] μ (pV fun μ' => mQ μ μ' ∧ mNow μ' v T Lw S ∧ gNN μ' ∧ mOff mNC mNF μ μ' ∧ μ'.1 152 = sNt T Lw (μ.1 112 58) od (μ.1 112 59) E) := by
  refine (c_X12_nightGoes hG hP hm.1 (by rw [hr, hod]; exact hrt)).mono (pV_mono ?_)
  rintro μ' ⟨h1, h2⟩
  rw [hr, hod] at h2
  have hq : mQ μ μ' := ⟨h1.mono (by decide) (by decide), fun i hi => by rw [h2, sNt_hi hm.1.2.2.2.2.2 hi]; exact he i hi⟩
  exact ⟨hq, hq.now hm, h1.gNN hP, h1, h2⟩
end ModB
