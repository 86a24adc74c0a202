/-! THE REFERENCE reads: what stays of the text that is live -/
def rdF : List Nat := [2, 4, 10, 11, 12, 13, 14, 15, 16, 17, 19, 20, 42, 48, 52]
def rdK (v : Nat) (μ μ' : jM) : Prop := μ'.2.2 = μ.2.2 ∧ (∀ c, c ≠ 118 → c ≠ 120 → μ'.2.1 c = μ.2.1 c) ∧ (∀ f, f ∉ rdF → μ'.1 112 f = μ.1 112 f) ∧ ∀ c i, c ≠ 112 → ¬ (114 ≤ c ∧ c ≤ 117) → ¬ inS v c i → μ'.1 c i = μ.1 c i
theorem rdK.trans {v : Nat} {μ μ1 μ2 : jM} (h1 : rdK v μ μ1) (h2 : rdK v μ1 μ2) : rdK v μ μ2 := ⟨h2.1.trans h1.1, fun c a b => (h2.2.1 c a b).trans (h1.2.1 c a b), fun f a => (h2.2.2.1 f a).trans (h1.2.2.1 f a), fun c i a b d => (h2.2.2.2 c i a b d).trans (h1.2.2.2 c i a b d)⟩
theorem rdK_rm {v : Nat} {μ μ' : jM} (h : rmK v μ μ') : rdK v μ μ' := ⟨h.1, fun c _ a => h.2.1 c a, fun f a => h.2.2.1 f (fun z => a (by unfold rF rdF at *; simp at z ⊢; omega)), fun c i a _ b => h.2.2.2 c i a b⟩
theorem rdK_3 {v : Nat} {C F L : List Nat} {μ μ' : jM} (h : mO3 C F L μ μ') (hC : ∀ c ∈ C, 114 ≤ c ∧ c ≤ 117) (hF : ∀ f ∈ F, f ∈ rdF) (hL : ∀ c ∈ L, c = 118) : rdK v μ μ' := ⟨h.1, fun c a _ => h.2.2.2 c (fun z => a (hL c z)), fun f a => h.2.2.1 f (fun z => a (hF f z)), fun c i a b _ => by rw [h.2.1 c a (fun z => b (hC c z))]⟩
theorem rdK.gNN {v : Nat} {μ μ' : jM} (h : rdK v μ μ') (hP : gNN μ) : gNN μ' := gNN_of h.1 hP
theorem rdK.row {v : Nat} {μ μ' : jM} (h : rdK v μ μ') (c : Nat) (h1 : c < 114 ∨ (117 < c ∧ c < 121) ∨ 148 < c) (h2 : c ≠ 112) : μ'.1 c = μ.1 c := by
  funext i
  refine h.2.2.2 c i h2 (by omega) (fun z => ?_)
  unfold inS at z; omega
/-- a branch of the live side stays -/
theorem brR_side {v b : Nat} {br : Option (sE × sE) × sE} {μ μ' : jM} (hv : v < 2) (hb : ∀ c, 141 ≤ c → c ≤ 145 → μ'.1 c b = μ.1 c b) (hc : ∀ i, 420 * v ≤ i → i < 420 * v + 420 → μ'.1 146 i = μ.1 146 i ∧ μ'.1 147 i = μ.1 147 i) (h : brR μ b br) (hg : brG μ b (420 * v) br.1.isSome) : brR μ' b br ∧ brG μ' b (420 * v) br.1.isSome := by
  obtain ⟨t, w⟩ := br
  obtain ⟨⟨x, y, g1, g2, g3, g4, g5⟩, g6⟩ := hg
  have hx31 : x < 2 ^ 31 := by omega
  refine ⟨?_, ?_⟩
  · unfold brR at h ⊢
    obtain ⟨⟨o, ⟨s1, s2, s3⟩, s4, s5⟩, ht⟩ := h
    have eo : o = x := (nI_eq (by omega) hx31).mp (s4.symm.trans g1)
    have ey : o + w.length = y := (nI_eq (by have : o + w.length ≤ 840 := s3; omega) (by omega)).mp (s5.symm.trans g2)
    refine ⟨⟨o, ⟨s1, seg_c (fun i q1 q2 => hc i (by omega) (by have : i < o + w.length := q2; omega)) s2, s3⟩, by rw [hb 144 (by decide) (by decide)]; exact s4, by rw [hb 145 (by decide) (by decide)]; exact s5⟩, ?_⟩
    cases t with
    | none =>
      have ht : μ.1 141 b = 0 := ht
      show μ'.1 141 b = 0
      rw [hb 141 (by decide) (by decide)]; exact ht
    | some uv =>
      obtain ⟨u, vv⟩ := uv
      obtain ⟨q1, ⟨o1, ⟨a1, a2, a3⟩, a4, a5⟩, o2, ⟨b1, b2, b3⟩, b4, b5⟩ : ¬ μ.1 141 b = 0 ∧ (∃ o, segOK μ o u ∧ μ.1 142 b = nI o ∧ μ.1 143 b = nI (o + u.length)) ∧ ∃ o, segOK μ o vv ∧ μ.1 143 b = nI o ∧ μ.1 144 b = nI (o + vv.length) := ht
      obtain ⟨z, z1, z2, z3⟩ := g6 rfl
      have e1 : o1 = z := (nI_eq (by omega) (by omega)).mp (a4.symm.trans z1)
      have e2 : o1 + u.length = o2 := (nI_eq (by omega) (by omega)).mp (a5.symm.trans b4)
      have e3 : o2 + vv.length = o := (nI_eq (by omega) (by omega)).mp (b5.symm.trans s4)
      show ¬ μ'.1 141 b = 0 ∧ (∃ o, segOK μ' o u ∧ μ'.1 142 b = nI o ∧ μ'.1 143 b = nI (o + u.length)) ∧ ∃ o, segOK μ' o vv ∧ μ'.1 143 b = nI o ∧ μ'.1 144 b = nI (o + vv.length)
      rw [hb 141 (by decide) (by decide), hb 142 (by decide) (by decide), hb 143 (by decide) (by decide), hb 144 (by decide) (by decide)]
      exact ⟨q1, ⟨o1, ⟨a1, seg_c (fun i q1 q2 => hc i (by omega) (by omega)) a2, a3⟩, a4, a5⟩, o2, ⟨b1, seg_c (fun i q1 q2 => hc i (by omega) (by omega)) b2, b3⟩, b4, b5⟩
  · unfold brG
    rw [hb 144 (by decide) (by decide), hb 145 (by decide) (by decide), hb 142 (by decide) (by decide)]
    exact ⟨⟨x, y, g1, g2, g3, g4, g5⟩, g6⟩
theorem nIn {v c i : Nat} (hv : v < 2) (h : (wid c = 1 ∧ i = v) ∨ (wid c * v ≤ i ∧ i < wid c * v + wid c)) (hc : 122 ≤ c ∧ c ≤ 147) : ¬ inS (1 - v) c i := by
  rintro (z | ⟨-, -, z1, z2⟩)
  · omega
  · have hv' : v = 0 ∨ v = 1 := by omega
    rcases hv' with rfl | rfl <;> rcases h with ⟨h1, h2⟩ | ⟨h1, h2⟩ <;> (try rw [h1] at z1 z2) <;> omega
theorem txM_side {v : Nat} {T : sT} {Lw : Nat → sLaw} {μ μ' : jM} (h : txM μ v T Lw) (hr : rdK (1 - v) μ μ') : txM μ' v T Lw := by
  obtain ⟨⟨hv, h18⟩, h2, h3, h4, h5, h6⟩ := h
  have hc : ∀ c i, 122 ≤ c ∧ c ≤ 147 → ((wid c = 1 ∧ i = v) ∨ (wid c * v ≤ i ∧ i < wid c * v + wid c)) → μ'.1 c i = μ.1 c i := fun c i a b => hr.2.2.2 c i (by omega) (by omega) (nIn hv b a)
  have h12 := h6.1.2.1
  have h7 := h6.1.2.2.1
  refine ⟨⟨hv, by rw [hr.2.2.1 18 (by decide)]; exact h18⟩, ?_, fun k hk => ?_, fun a ha => ?_, fun q hq => ?_, h6⟩
  · rw [hc 122 v (by decide) (Or.inl ⟨rfl, rfl⟩), hc 123 v (by decide) (Or.inl ⟨rfl, rfl⟩), hc 129 v (by decide) (Or.inl ⟨rfl, rfl⟩), hc 128 v (by decide) (Or.inl ⟨rfl, rfl⟩), hc 135 v (by decide) (Or.inl ⟨rfl, rfl⟩), hc 136 v (by decide) (Or.inl ⟨rfl, rfl⟩), hc 137 v (by decide) (Or.inl ⟨rfl, rfl⟩), hc 138 v (by decide) (Or.inl ⟨rfl, rfl⟩)]; exact h2
  · have w : ∀ c, (c = 124 ∨ c = 125 ∨ c = 126 ∨ c = 127) → μ'.1 c (12 * v + k) = μ.1 c (12 * v + k) := fun c z => hc c _ (by omega) (Or.inr (by
      have : wid c = 12 := by rcases z with rfl | rfl | rfl | rfl <;> rfl
      rw [this]; omega))
    rw [w 124 (by decide), w 125 (by decide), w 126 (by decide), w 127 (by decide)]; exact h3 k hk
  · have w : ∀ c, (c = 130 ∨ c = 131 ∨ c = 132 ∨ c = 133 ∨ c = 134) → μ'.1 c (7 * v + a) = μ.1 c (7 * v + a) := fun c z => hc c _ (by omega) (Or.inr (by
      have : wid c = 7 := by rcases z with rfl | rfl | rfl | rfl | rfl <;> rfl
      rw [this]; omega))
    rw [w 130 (by decide), w 131 (by decide), w 132 (by decide), w 133 (by decide), w 134 (by decide)]; exact h4 a ha
  · have w : ∀ c, (c = 139 ∨ c = 140) → μ'.1 c (3 * v + q) = μ.1 c (3 * v + q) := fun c z => hc c _ (by omega) (Or.inr (by
      have : wid c = 3 := by rcases z with rfl | rfl <;> rfl
      rw [this]; omega))
    have ei : (3 * v + q) / 3 = v := by omega
    have := h5 q hq
    unfold lawM at this ⊢
    rw [w 139 (by decide), w 140 (by decide)]
    rw [ei] at this ⊢
    rcases this with z | ⟨z, f, z1, z2, z3, z4, z5⟩
    · exact Or.inl z
    · refine Or.inr ⟨z, f, z1, z2, z3, z4, fun j br hj => ?_⟩
      have hl := (List.getElem?_eq_some_iff.mp hj).1
      refine brR_side hv (fun c a b => hc c _ (by omega) (Or.inr ?_)) (fun i a b => ⟨hc 146 i (by decide) (Or.inr ⟨a, b⟩), hc 147 i (by decide) (Or.inr ⟨a, b⟩)⟩) (z5 j br hj).1 (z5 j br hj).2
      have : wid c = 130 := by
        have : c = 141 ∨ c = 142 ∨ c = 143 ∨ c = 144 ∨ c = 145 := by omega
        rcases this with rfl | rfl | rfl | rfl | rfl <;> rfl
      rw [this]; omega
/-- the side that was read is the text -/
theorem brX_R {μ : jM} {b lo hi v : Nat} {br : Option (sE × sE) × sE} (h : brX μ b br lo hi) (hw : rW br.2 0 = some 1 ∧ match br.1 with
  | none => True
  | some uv => rW uv.1 0 = some 1 ∧ rW uv.2 0 = some 1) (hlo : 420 * v ≤ lo) (hhi : hi ≤ 420 * v + 420) (hv : v < 2) : brR μ b br ∧ brG μ b (420 * v) br.1.isSome := by
  obtain ⟨t, w⟩ := br
  unfold brX at h
  cases t with
  | none =>
    obtain ⟨o, ⟨a1, a2⟩, a3, a4, a5, a6⟩ := h
    have a2 : o + w.length ≤ hi := a2
    refine ⟨⟨⟨o, ⟨hw.1, a3, by show o + w.length ≤ 840; omega⟩, a4, a5⟩, a6⟩, ⟨o, o + w.length, a4, a5, by omega, by omega, by omega⟩, fun z => by cases z⟩
  | some uv =>
    obtain ⟨o, ⟨a1, a2⟩, ⟨b1, b2, b3⟩, a4, a5, a6, a7, a8⟩ := h
    have a2 : o + uv.1.length + uv.2.length + w.length ≤ hi := a2
    obtain ⟨hw1, hw2, hw3⟩ := hw
    refine ⟨⟨⟨o + uv.1.length + uv.2.length, ⟨hw1, b3, by show _ + w.length ≤ 840; omega⟩, a6, a7⟩, a8, ⟨o, ⟨hw2, b1, by omega⟩, a4, a5⟩, o + uv.1.length, ⟨hw3, b2, by omega⟩, a5, a6⟩, ⟨o + uv.1.length + uv.2.length, o + uv.1.length + uv.2.length + w.length, a6, a7, by omega, by omega, by omega⟩, fun _ => ⟨o, a4, by omega, by omega⟩⟩
theorem dM_tx {v t : Nat} {T : sT} {Lw : Nat → sLaw} {N : nL} {μ μ' : jM} (h : dM v t T Lw N μ) (hV : vT T Lw) (ht : t ≤ 400) (ho : mO3 [] [17, 18] [] μ μ') (h18 : μ'.1 112 18 = nI v) : txM μ' v T Lw := by
  obtain ⟨⟨hv, -, -⟩, d1, d2, d3, -, b, c, b1, b2, b3, b4, b5, b6, b7⟩ := h
  have hc : ∀ c, c ≠ 112 → μ'.1 c = μ.1 c := fun c a => ho.2.1 c a (by simp)
  refine ⟨⟨hv, h18⟩, ?_, fun k hk => ?_, fun a ha => ?_, fun q hq => ?_, hV⟩
  · rw [hc 122 (by decide), hc 123 (by decide), hc 129 (by decide), hc 128 (by decide), hc 135 (by decide), hc 136 (by decide), hc 137 (by decide), hc 138 (by decide)]; exact d1
  · rw [hc 124 (by decide), hc 125 (by decide), hc 126 (by decide), hc 127 (by decide)]; exact d2 k hk
  · rw [hc 130 (by decide), hc 131 (by decide), hc 132 (by decide), hc 133 (by decide), hc 134 (by decide)]; exact d3 a ha
  · have ei : (3 * v + q) / 3 = v := by omega
    unfold lawM
    rw [hc 139 (by decide), hc 140 (by decide), ei]
    rcases b7 q hq with ⟨z1, z2, z3⟩ | ⟨f, z1, z2, z3, z4, z5, z6⟩
    · exact Or.inl ⟨by rw [z1, z2], z3⟩
    · refine Or.inr ⟨fun e => ?_, f, z1, z2, by omega, by omega, fun j br hj => ?_⟩
      · rw [z1, z2] at e
        have := (nI_eq (by omega) (by omega)).mp e
        omega
      · have hm : br ∈ Lw q := List.mem_of_getElem? hj
        obtain ⟨r1, r2⟩ := brX_R (v := v) (z6 j br hj) (hV.2.2.2 q br hm) (Nat.le_refl _) (by omega) hv
        refine ⟨?_, ?_⟩
        · unfold brR segOK at r1 ⊢
          rw [hc 141 (by decide), hc 142 (by decide), hc 143 (by decide), hc 144 (by decide), hc 145 (by decide), hc 146 (by decide), hc 147 (by decide)]; exact r1
        · unfold brG at r2 ⊢
          rw [hc 142 (by decide), hc 144 (by decide), hc 145 (by decide)]; exact r2
/-- the cells of the class stay -/
def loG (μ μ' : jM) : Prop := μ'.2.2 = μ.2.2 ∧ μ'.2.1 119 = μ.2.1 119 ∧ ∀ c, c < 112 ∨ 167 ≤ c → μ'.1 c = μ.1 c ∧ μ'.2.1 c = μ.2.1 c
theorem loM.G {μ μ' : jM} (h : loM μ μ') : loG μ μ' := ⟨by rw [h.1], by rw [h.1], fun c hc => ⟨h.2 c hc, by rw [h.1]⟩⟩
theorem loG.trans {μ μ1 μ2 : jM} (h1 : loG μ μ1) (h2 : loG μ1 μ2) : loG μ μ2 := ⟨h2.1.trans h1.1, h2.2.1.trans h1.2.1, fun c hc => ⟨(h2.2.2 c hc).1.trans (h1.2.2 c hc).1, (h2.2.2 c hc).2.trans (h1.2.2 c hc).2⟩⟩
theorem rdK.G {v : Nat} {μ μ' : jM} (h : rdK v μ μ') : loG μ μ' := ⟨h.1, h.2.1 119 (by decide) (by decide), fun c hc => ⟨h.row c (by omega) (by omega), h.2.1 c (by omega) (by omega)⟩⟩
/-- what a reading makes -/
noncomputable def dRead (a : aS) : Int32 × aS := match rdS (gY a) with
  | .error e => (nI e.1, (([], nI e.2), a.2))
  | .ok s => if s.2.1.1 = 0 then (0, (([], -1), (s.2.2.1, s.2.2.2.1), (sBg s.2.2.1, []), ((fun _ => false), gSl a), [])) else (nI s.2.1.1, (([], nI s.2.1.2), a.2))
theorem mI_bad {a : aS} {v : Nat} {x : Int32} {μ μ' : jM} (h : mI a μ) (hm : mNow μ v (gT a) (gL a) (gS a)) (hr : rdK (1 - v) μ μ') (h2 : μ'.1 112 2 = 0) (h17 : μ'.1 112 17 = x) : mI (([], x), a.2) μ' := by
  obtain ⟨-, -, -, h4, h5, h6⟩ := h
  obtain ⟨m1, m2, m3, m4, m5⟩ := hm
  refine ⟨⟨v, txM_side m1 hr, by rw [hr.row 151 (by omega) (by decide)]; exact m2, by rw [hr.row 152 (by omega) (by decide)]; exact m3, m4, m5⟩, ⟨h2, Nat.zero_le _, fun i b hb => absurd hb (by show ¬ ([] : List Int32)[i]? = some b; simp)⟩, h17, ?_, ?_, ?_⟩
  · unfold histM at h4 ⊢; rw [hr.2.2.1 66 (by decide), hr.row 157 (by omega) (by decide)]; exact h4
  · unfold slotM at h5 ⊢; rw [hr.row 165 (by omega) (by decide), hr.row 166 (by omega) (by decide)]; exact h5
  · unfold dreamM at h6 ⊢; rw [hr.2.2.1 71 (by decide), hr.row 159 (by omega) (by decide), hr.row 160 (by omega) (by decide), hr.row 161 (by omega) (by decide)]; exact h6
section RdM
variable {l : Launch} {G : jG} {Y : List Int32} {v : Nat}
theorem c_X12_plain (hG : gMM G) {μ : jM} (hP : gNN μ) (hv : v < 2) {z : Int32} (hz : z = nI v) : jC0 l mX12_plain 0 G [.ref 112, .int z] μ (pV fun μ' => dI v T0 μ' ∧ (∀ q, q < 3 → μ'.1 139 (3 * v + q) = 0 ∧ μ'.1 140 (3 * v + q) = 0) ∧ rmK v μ μ' ∧ μ'.1 112 = μ.1 112 ∧ mO3 [122, 123, 128, 129, 135, 136, 137, 138, 139, 140] [] [] μ μ') := by
  subst hz
  refine jC0.of' (ls := [.ref 112, .int (nI v), .null]) rfl rfl rfl (fun _ _ => Nat.le_of_ble_eq_true rfl) ?_
  have cv : (nI v).toNatClampNeg = v := nI_clamp (by omega)
  refine b_X12_plain_0 hG hP (vp_in_nI hv (by decide)) ?_
  rw [cv]
  obtain ⟨μ1, e1⟩ : ∃ μ1, (wI (wI (wI (wI (wI (wI (wI (wI μ 122 v 0) 123 v 0) 128 v 0) 129 v 0) 135 v 0) 136 v 10) 137 v 20) 138 v 0) = μ1 := ⟨_, rfl⟩
  have k1 : rmK v μ μ1 := by
    rw [← e1]
    exact (((((((rmK_wC (by decide) (in1 122 (by decide))).trans (rmK_wC (by decide) (in1 123 (by decide)))).trans (rmK_wC (by decide) (in1 128 (by decide)))).trans (rmK_wC (by decide) (in1 129 (by decide)))).trans (rmK_wC (by decide) (in1 135 (by decide)))).trans (rmK_wC (by decide) (in1 136 (by decide)))).trans (rmK_wC (by decide) (in1 137 (by decide)))).trans (rmK_wC (by decide) (in1 138 (by decide)))
  have o1 : mO3 [122, 123, 128, 129, 135, 136, 137, 138, 139, 140] [] [] μ μ1 := by
    rw [← e1]
    exact (((((((mO3_wC (by decide) (by decide)).trans (mO3_wC (by decide) (by decide))).trans (mO3_wC (by decide) (by decide))).trans (mO3_wC (by decide) (by decide))).trans (mO3_wC (by decide) (by decide))).trans (mO3_wC (by decide) (by decide))).trans (mO3_wC (by decide) (by decide))).trans (mO3_wC (by decide) (by decide))
  have d1 : dI v T0 μ1 := by
    rw [← e1]
    refine ⟨?_, ?_, ?_, ?_, ?_, ?_, ?_, ?_⟩ <;> (simp [wI, upd]; rfl)
  rw [e1]
  have P1 := k1.gNN hP
  have st : ∀ q, 3 * nI v + nI q = nI (3 * v + q) := fun q => by rw [show (3 : Int32) = nI 3 from rfl, pk_mul, nI_add]
  have inq : ∀ q, q < 3 → ∀ c, (c = 139 ∨ c = 140) → inS v c (3 * v + q) := fun q hq c hc => by
    refine Or.inr ⟨by omega, by omega, ?_⟩
    have : wid c = 3 := by rcases hc with rfl | rfl <;> rfl
    rw [this]; omega
  have loop : ∀ q, q ≤ 3 → ∀ μ2 : jM, rmK v μ1 μ2 → mO3 [139, 140] [] [] μ1 μ2 → (∀ j, j < q → μ2.1 139 (3 * v + j) = 0 ∧ μ2.1 140 (3 * v + j) = 0) → J l mX12_plain (jZ0 0 G (pV fun μ' => dI v T0 μ' ∧ (∀ q, q < 3 → μ'.1 139 (3 * v + q) = 0 ∧ μ'.1 140 (3 * v + q) = 0) ∧ rmK v μ μ' ∧ μ'.1 112 = μ.1 112 ∧ mO3 [122, 123, 128, 129, 135, 136, 137, 138, 139, 140] [] [] μ μ')) G 0 0 60 [.ref 112, .int (nI v), .int (nI q)] [] μ2 := by
    refine up_loop 3 ?_ (fun q hq ih => ?_)
    · intro μ2 k2 o2 h2
      refine b_X12_plain_60 hG (k2.gNN P1) (fun _ => ⟨?_, h2, k1.trans k2, ?_, o1.trans (o2.mono (by decide) (by decide) (by decide))⟩) (fun z => absurd (by decide) z) (fun z => absurd (by decide) z)
      · unfold dI at d1 ⊢
        rw [o2.c 122, o2.c 123, o2.c 129, o2.c 128, o2.c 135, o2.c 136, o2.c 137, o2.c 138]; exact d1
      · funext f
        rw [o2.2.2.1 f (by simp), o1.2.2.1 f (by simp)]
    · intro μ2 k2 o2 h2
      have hlt : ¬ (3 : Int32) ≤ nI q := nI_ge (b := 3) hq (by decide)
      refine b_X12_plain_60 hG (k2.gNN P1) (fun z => absurd z hlt) (fun _ => by rw [st]; exact vp_in_nI (by omega) (by decide)) (fun _ => ?_)
      rw [st, nI_clamp (by omega), nI_inc]
      refine ih _ (k2.trans ((rmK_wC (by decide) (inq q hq 139 (by decide))).trans (rmK_wC (by decide) (inq q hq 140 (by decide))))) (o2.trans ((mO3_wC (by decide) (by decide)).trans (mO3_wC (by decide) (by decide)))) (fun j hj => ?_)
      by_cases ej : j = q
      · subst ej
        exact ⟨by rw [wI_ne (by decide), wI_at], wI_at⟩
      · rw [wI_ne (by decide), wI_off' (by omega), wI_off' (by omega), wI_ne (by decide)]
        exact h2 j (by omega)
  exact loop 0 (by decide) μ1 rmK.refl mO3.refl (fun j hj => by omega)
end RdM
