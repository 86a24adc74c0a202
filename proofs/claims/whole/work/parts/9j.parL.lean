/-! THE REFERENCE reads a LAW -/
def brX (μ : jM) (b : Nat) (br : Option (sE × sE) × sE) (lo hi : Nat) : Prop := match br.1 with
  | none => ∃ o, (lo ≤ o ∧ o + br.2.length ≤ hi) ∧ seg (μ.1 146) (μ.1 147) o br.2 ∧ μ.1 144 b = nI o ∧ μ.1 145 b = nI (o + br.2.length) ∧ μ.1 141 b = 0
  | some uv => ∃ o, (lo ≤ o ∧ o + uv.1.length + uv.2.length + br.2.length ≤ hi) ∧ (seg (μ.1 146) (μ.1 147) o uv.1 ∧ seg (μ.1 146) (μ.1 147) (o + uv.1.length) uv.2 ∧ seg (μ.1 146) (μ.1 147) (o + uv.1.length + uv.2.length) br.2) ∧ μ.1 142 b = nI o ∧ μ.1 143 b = nI (o + uv.1.length) ∧ μ.1 144 b = nI (o + uv.1.length + uv.2.length) ∧ μ.1 145 b = nI (o + uv.1.length + uv.2.length + br.2.length) ∧ ¬ μ.1 141 b = 0
def lX (μ : jM) (b : Nat) (L : sLaw) (lo hi : Nat) : Prop := ∀ (j : Nat) (br : Option (sE × sE) × sE), L[j]? = some br → brX μ (b + j) br lo hi
theorem seg_c {f g f' g' : Nat → Int32} {o : Nat} {e : sE} (hc : ∀ i, o ≤ i → i < o + e.length → f' i = f i ∧ g' i = g i) (h : seg f g o e) : seg f' g' o e := by
  intro j q hj
  have hl := (List.getElem?_eq_some_iff.mp hj).1
  obtain ⟨h1, h2⟩ := hc (o + j) (by omega) (by omega)
  rw [h1, h2]; exact h j q hj
theorem brX_c {μ μ' : jM} {b lo hi : Nat} {br : Option (sE × sE) × sE} (h1 : ∀ c, 141 ≤ c → c ≤ 145 → μ'.1 c b = μ.1 c b) (h2 : ∀ i, i < hi → lo ≤ i → μ'.1 146 i = μ.1 146 i ∧ μ'.1 147 i = μ.1 147 i) (h : brX μ b br lo hi) : brX μ' b br lo hi := by
  obtain ⟨t, w⟩ := br
  unfold brX at h ⊢
  cases t with
  | none =>
    obtain ⟨o, ⟨a1, a2⟩, a3, a4, a5, a6⟩ := h
    refine ⟨o, ⟨a1, a2⟩, seg_c (fun i q1 q2 => h2 i (by omega) (by omega)) a3, ?_, ?_, ?_⟩
    · rw [h1 144 (by decide) (by decide)]; exact a4
    · rw [h1 145 (by decide) (by decide)]; exact a5
    · rw [h1 141 (by decide) (by decide)]; exact a6
  | some uv =>
    obtain ⟨o, ⟨a1, a2⟩, ⟨b1, b2, b3⟩, a4, a5, a6, a7, a8⟩ := h
    refine ⟨o, ⟨a1, a2⟩, ⟨seg_c (fun i q1 q2 => h2 i (by omega) (by omega)) b1, seg_c (fun i q1 q2 => h2 i (by omega) (by omega)) b2, seg_c (fun i q1 q2 => h2 i (by omega) (by omega)) b3⟩, ?_, ?_, ?_, ?_, ?_⟩
    · rw [h1 142 (by decide) (by decide)]; exact a4
    · rw [h1 143 (by decide) (by decide)]; exact a5
    · rw [h1 144 (by decide) (by decide)]; exact a6
    · rw [h1 145 (by decide) (by decide)]; exact a7
    · rw [h1 141 (by decide) (by decide)]; exact a8
theorem brX_m {μ : jM} {b lo hi lo' hi' : Nat} {br : Option (sE × sE) × sE} (h1 : lo' ≤ lo) (h2 : hi ≤ hi') (h : brX μ b br lo hi) : brX μ b br lo' hi' := by
  obtain ⟨t, w⟩ := br
  unfold brX at h ⊢
  cases t with
  | none => obtain ⟨o, ⟨a1, a2⟩, r⟩ := h; exact ⟨o, ⟨by omega, by omega⟩, r⟩
  | some uv => obtain ⟨o, ⟨a1, a2⟩, r⟩ := h; exact ⟨o, ⟨by omega, by omega⟩, r⟩
/-- branches and codes below b, c stay -/
def lO (v b c : Nat) (μ μ' : jM) : Prop := mO3 [141, 142, 143, 144, 145, 146, 147, 148] (42 :: fE) [] μ μ' ∧ (∀ i, (i < c ∨ 420 * v + 401 ≤ i) → μ'.1 146 i = μ.1 146 i ∧ μ'.1 147 i = μ.1 147 i) ∧ ∀ cc, 141 ≤ cc → cc ≤ 145 → ∀ i, (i < b ∨ 130 * v + 110 ≤ i) → μ'.1 cc i = μ.1 cc i
theorem lO.refl {v b c : Nat} {μ : jM} : lO v b c μ μ := ⟨mO3.refl, fun _ _ => ⟨rfl, rfl⟩, fun _ _ _ _ _ => rfl⟩
theorem lO.trans {v b c : Nat} {μ μ1 μ2 : jM} (h1 : lO v b c μ μ1) (h2 : lO v b c μ1 μ2) : lO v b c μ μ2 := ⟨h1.1.trans h2.1, fun i h => ⟨(h2.2.1 i h).1.trans (h1.2.1 i h).1, (h2.2.1 i h).2.trans (h1.2.1 i h).2⟩, fun cc a b i h => (h2.2.2 cc a b i h).trans (h1.2.2 cc a b i h)⟩
theorem lO.mono {v b c b' c' : Nat} {μ μ' : jM} (h : lO v b' c' μ μ') (hb : b ≤ b') (hc : c ≤ c') : lO v b c μ μ' := ⟨h.1, fun i hi => h.2.1 i (by omega), fun cc a b i hi => h.2.2 cc a b i (by omega)⟩
theorem lO_e {v b c : Nat} {F : List Nat} {μ μ' : jM} (h : eO F (420 * v + 401) c μ μ') (hF : ∀ f ∈ F, f ∈ 42 :: fE) : lO v b c μ μ' := ⟨h.1.mono (by decide) hF (fun _ z => z), h.2, fun cc a b i _ => by rw [h.1.2.1 cc (by omega) (fun z => by simp at z; omega)]⟩
theorem lO_3 {v b c : Nat} {F : List Nat} {μ μ' : jM} (h : mO3 [] F [] μ μ') (hF : ∀ f ∈ F, f ∈ 42 :: fE) : lO v b c μ μ' := lO_e (eO_3 h (fun _ z => z)) hF
theorem lO_w {v b c cc i : Nat} {μ : jM} {x : Int32} (h1 : 141 ≤ cc) (h2 : cc ≤ 145) (hi : b ≤ i) (hv : i < 130 * v + 110) : lO v b c μ (wI μ cc i x) := by
  refine ⟨⟨rfl, fun a ha hn => wI_ne (fun z => hn ?_), fun f hf => by rw [wI_ne (by omega)], fun _ _ => rfl⟩, fun j _ => ?_, fun d a b' j hj => ?_⟩
  · rw [z]
    have : cc = 141 ∨ cc = 142 ∨ cc = 143 ∨ cc = 144 ∨ cc = 145 := by omega
    rcases this with rfl | rfl | rfl | rfl | rfl <;> decide
  · rw [wI_ne (by omega), wI_ne (by omega)]; exact ⟨rfl, rfl⟩
  · by_cases e : d = cc
    · subst e; exact wI_off' (by omega)
    · rw [wI_ne e]
theorem lX_o {v b b0 c lo : Nat} {μ μ' : jM} {L : sLaw} (h : lX μ b0 L lo c) (ho : lO v b c μ μ') (hb : b0 + L.length ≤ b) : lX μ' b0 L lo c := fun j br hj => by
  have hl := (List.getElem?_eq_some_iff.mp hj).1
  exact brX_c (fun cc a b => ho.2.2 cc a b _ (by omega)) (fun i hi _ => ho.2.1 i (by omega)) (h j br hj)
theorem lX_app {μ : jM} {b lo hi : Nat} {L : sLaw} {br : Option (sE × sE) × sE} (h : lX μ b L lo hi) (hb : brX μ (b + L.length) br lo hi) : lX μ b (L ++ [br]) lo hi := fun j x hj => by
  by_cases e : j = L.length
  · subst e
    rw [List.getElem?_append_right (Nat.le_refl _)] at hj
    simp at hj
    rw [← hj]; exact hb
  · have hl : j < L.length := by
      have := (List.getElem?_eq_some_iff.mp hj).1
      simp at this; omega
    rw [List.getElem?_append_left hl] at hj
    exact h j x hj
theorem mB_l {e : pF} {v b c : Nat} {F : List Nat} {μ μ' : jM} (h : mB e μ) (ho : mO3 [141, 142, 143, 144, 145, 146, 147, 148] F [] μ μ') (h1 : 11 ∉ F := by decide) (h2 : 13 ∉ F := by decide) (h3 : 14 ∉ F := by decide) : mB e μ' := mB_off h ho h1 h2 h3
section ParL
variable {l : Launch} {G : jG} {Y : List Int32} {w : Nat × Nat}
theorem d_X12_term (hG : gMM G) {μ : jM} (hP : gNN μ) {e : pF} (h : mB e μ) {b v c : Nat} (hb : μ.1 112 42 = nI b) (hv : 130 * v ≤ b ∧ b < 130 * v + 110) (hv2 : v < 2) : jC0 l mX12_term 4 G [.ref 112] μ (pV fun μ' => mB e μ' ∧ μ'.1 112 42 = nI (b + 1) ∧ lO v b c μ μ') := by
  refine jC0.of' (ls := [.ref 112]) rfl rfl rfl (fun _ _ => Nat.le_of_ble_eq_true rfl) ?_
  refine b_X12_term_0 (ψ1 := fun _ => True) hG hP (by rw [hb]; exact vp_in_nI (by omega) (by decide)) (fun _ => ?_) (fun z => absurd z (mB_13 h).1) (fun z => absurd z (mB_13 h).1)
  rw [hb, nI_clamp (by omega), nI_inc]
  have o1 : lO v b c μ (wI μ 144 b (μ.1 112 48)) := lO_w (by decide) (by decide) (Nat.le_refl _) hv.2
  have o2 : lO v b c (wI μ 144 b (μ.1 112 48)) (wI (wI μ 144 b (μ.1 112 48)) 145 b (μ.1 112 48)) := lO_w (by decide) (by decide) (Nat.le_refl _) hv.2
  have o3 : mO3 [144, 145] [42] [] μ (wI (wI (wI μ 144 b (μ.1 112 48)) 145 b (μ.1 112 48)) 112 42 (nI (b + 1))) := ((mO3_wC (by decide) (by decide)).trans (mO3_wC (by decide) (by decide))).trans (mO3_wF (by decide))
  exact ⟨mB_off h o3, wI_at, (o1.trans o2).trans (lO_3 (mO3_wF (F := [42]) (by decide)) (by decide))⟩
theorem c_X12_term (hG : gMM G) {μ : jM} (hP : gNN μ) {t : Nat} (h : okM Y t w μ) (h12 : μ.1 112 12 = 0) {b v c : Nat} (hb : μ.1 112 42 = nI b) (hv : 130 * v ≤ b ∧ b < 130 * v + 110) (hv2 : v < 2) (hc : μ.1 112 48 = nI c) (hc2 : c ≤ 420 * v + t) : jC0 l mX12_term 4 G [.ref 112] μ (pV fun μ' => pR (exS Y t) (fun r μ' => eR Y w c r μ' ∧ μ'.1 144 b = nI c ∧ μ'.1 145 b = nI (c + r.2.length) ∧ ∀ cc, 141 ≤ cc → cc ≤ 143 → μ'.1 cc = μ.1 cc) mB μ' ∧ μ'.1 112 42 = nI (b + 1) ∧ lO v b c μ μ') := by
  refine jC0.of' (ls := [.ref 112]) rfl rfl rfl (fun _ _ => Nat.le_of_ble_eq_true rfl) ?_
  have ib : vp_in (μ.1 112 42) 260 := by rw [hb]; exact vp_in_nI (by omega) (by decide)
  have cb : (μ.1 112 42).toNatClampNeg = b := by rw [hb]; exact nI_clamp (by omega)
  have o1 : lO v b c μ (wI μ 144 b (μ.1 112 48)) := lO_w (by decide) (by decide) (Nat.le_refl _) hv.2
  have q1 : mO3 [144] [] [] μ (wI μ 144 b (μ.1 112 48)) := mO3_wC (by decide) (by decide)
  have P1 := q1.gNN hP
  refine b_X12_term_0 hG hP ib (fun z => absurd (okM_13 h).1 z) (fun _ => by rw [cb]; exact c_X12_expression (hi := 420 * v + 401) (c0 := c) hG (by omega) (by omega) P1 (okM_off h q1) (by rw [q1.f 12]; exact h12) (by rw [q1.f 48]; exact hc)) (fun _ μ2 h2 => ?_)
  obtain ⟨h2, o2⟩ := h2
  have P2 := o2.1.gNN P1
  have e42 : μ2.1 112 42 = nI b := by rw [o2.1.f 42 (by decide), q1.f 42]; exact hb
  refine b_X12_term_24 hG P2 (by rw [e42]; exact vp_in_nI (by omega) (by decide)) ?_
  rw [e42, nI_clamp (by omega), nI_inc]
  have o3 : lO v b c μ2 (wI μ2 145 b (μ2.1 112 48)) := lO_w (by decide) (by decide) (Nat.le_refl _) hv.2
  have q3 : mO3 [145] [42] [] μ2 (wI (wI μ2 145 b (μ2.1 112 48)) 112 42 (nI (b + 1))) := (mO3_wC (by decide) (by decide)).trans (mO3_wF (by decide))
  refine ⟨?_, wI_at, ((o1.trans (lO_e o2 (by decide))).trans o3).trans (lO_3 (mO3_wF (F := [42]) (by decide)) (by decide))⟩
  refine pR_mono h2 (fun r _ hr => ?_) (fun e he => mB_off he q3)
  obtain ⟨r1, r2, r3, r4⟩ := hr
  refine ⟨⟨okM_off r1 q3, by rw [q3.f 12]; exact r2, by rw [q3.f 48]; exact r3, by rw [q3.c 146, q3.c 147]; exact r4⟩, ?_, ?_, fun cc a b' => ?_⟩
  · rw [q3.c 144, o2.1.c 144, wI_at]; exact hc
  · rw [wI_ne (by decide), wI_at]; exact r3
  · rw [q3.2.1 cc (by omega) (fun z => by simp at z; omega), o2.1.2.1 cc (by omega) (fun z => by simp at z; omega), wI_ne (by omega)]
/-! the LAW after a FAULT -/
variable {φ : jM → Prop} {q x2 x3 : Int32} {b v c : Nat}
/-- where a LAW ends: the FAULT, or the branches -/
def lwQ (v b c : Nat) (e : pF) (μ μ' : jM) : Prop := mB e μ' ∧ lO v b c μ μ'
theorem lb143 (hG : gMM G) {μ : jM} (hP : gNN μ) {e : pF} (h : mB e μ) (K : ∀ μ', lwQ v b c e μ μ' → φ μ') : J l mX12_tellLaw (jZ0 5 G (pV φ)) G 0 0 143 [.ref 112, .int q, .int x2, .null] [] μ := by
  refine b_X12_tellLaw_143 hG hP (d_X12_must hG hP h _) (fun μ1 h1 => ?_)
  exact b_X12_tellLaw_148 hG (h1.2.gNN hP) (fun z => absurd z (mB_13 h1.1).2.1) (fun z => absurd z (mB_13 h1.1).2.1) (fun _ => K μ1 ⟨h1.1, lO_3 h1.2 (by decide)⟩)
theorem lb12 (hG : gMM G) {μ : jM} (hP : gNN μ) {e : pF} (h : mB e μ) {b' : Nat} (hb : μ.1 112 42 = nI b') (hv : 130 * v ≤ b' ∧ b' < 130 * v + 110) (hbb : b ≤ b') (hv2 : v < 2) (K : ∀ μ', lwQ v b c e μ μ' → φ μ') : J l mX12_tellLaw (jZ0 5 G (pV φ)) G 0 0 12 [.ref 112, .int q, .int x2, .int x3] [] μ := by
  have cb : (μ.1 112 42).toNatClampNeg = b' := by rw [hb]; exact nI_clamp (by omega)
  have o1 : lO v b c μ (wI μ 141 b' (vp_nar .boolean 0)) := lO_w (by decide) (by decide) hbb hv.2
  have q1 : mO3 [141] [] [] μ (wI μ 141 b' (vp_nar .boolean 0)) := mO3_wC (by decide) (by decide)
  have P1 := q1.gNN hP
  refine b_X12_tellLaw_12 (ψ1 := fun _ _ => True) hG hP (fun _ => by rw [hb]; exact vp_in_nI (by omega) (by decide)) (fun _ => by rw [cb]; exact d_X12_term (c := c) hG P1 (mB_off h q1) (by rw [q1.f 42]; exact hb) hv hv2) (fun _ μ2 h2 => ?_) (fun z => absurd z (mB_13 h).1) (fun z => absurd z (mB_13 h).1)
  obtain ⟨m2, -, o2⟩ := h2
  exact lb143 hG (o2.1.gNN P1) m2 (fun μ3 h3 => K μ3 ⟨h3.1, (o1.trans (o2.mono hbb (Nat.le_refl _))).trans h3.2⟩)
theorem lb120 (hG : gMM G) {μ : jM} (hP : gNN μ) {e : pF} (h : mB e μ) {b' : Nat} (hb : μ.1 112 42 = nI b') (hv : 130 * v ≤ b' ∧ b' < 130 * v + 110) (hbb : b ≤ b') (hv2 : v < 2) (K : ∀ μ', lwQ v b c e μ μ' → φ μ') : J l mX12_tellLaw (jZ0 5 G (pV φ)) G 0 0 120 [.ref 112, .int q, .int x2, .int x3] [] μ := by
  refine b_X12_tellLaw_120 hG hP (d_X12_must hG hP h _) (fun μ1 h1 => ?_)
  obtain ⟨m1, o1⟩ := h1
  have P1 := o1.gNN hP
  refine b_X12_tellLaw_126 hG P1 (lb12 (b := b) (c := c) hG P1 m1 (by rw [o1.f 42]; exact hb) hv hbb hv2 (fun μ2 h2 => K μ2 ⟨h2.1, (lO_3 o1 (by decide)).trans h2.2⟩))
theorem lb116 (hG : gMM G) {μ : jM} (hP : gNN μ) {e : pF} (h : mB e μ) {b' : Nat} (hb : μ.1 112 42 = nI b') (hv : 130 * v ≤ b' ∧ b' + 1 < 130 * v + 110) (hbb : b ≤ b') (hv2 : v < 2) (K : ∀ μ', lwQ v b c e μ μ' → φ μ') : J l mX12_tellLaw (jZ0 5 G (pV φ)) G 0 0 116 [.ref 112, .int q, .int x2, .int x3] [] μ := by
  refine b_X12_tellLaw_116 hG hP (d_X12_term (c := c) (v := v) hG hP h hb (by omega) hv2) (fun μ1 h1 => ?_)
  obtain ⟨m1, e1, o1⟩ := h1
  exact lb120 (b := b) (c := c) hG (o1.1.gNN hP) m1 e1 (by omega) (by omega) hv2 (fun μ2 h2 => K μ2 ⟨h2.1, (o1.mono hbb (Nat.le_refl _)).trans h2.2⟩)
theorem lb110 (hG : gMM G) {μ : jM} (hP : gNN μ) {e : pF} (h : mB e μ) {b' : Nat} (hb : μ.1 112 42 = nI b') (hv : 130 * v ≤ b' ∧ b' + 1 < 130 * v + 110) (hbb : b ≤ b') (hv2 : v < 2) (K : ∀ μ', lwQ v b c e μ μ' → φ μ') : J l mX12_tellLaw (jZ0 5 G (pV φ)) G 0 0 110 [.ref 112, .int q, .int x2, .int x3] [] μ := by
  refine b_X12_tellLaw_110 hG hP (d_X12_must hG hP h _) (fun μ1 h1 => ?_)
  obtain ⟨m1, o1⟩ := h1
  exact lb116 (b := b) (c := c) hG (o1.gNN hP) m1 (by rw [o1.f 42]; exact hb) hv hbb hv2 (fun μ2 h2 => K μ2 ⟨h2.1, (lO_3 o1 (by decide)).trans h2.2⟩)
theorem lb86 (hG : gMM G) {μ : jM} (hP : gNN μ) {e : pF} (h : mB e μ) {b' : Nat} (hb : μ.1 112 42 = nI b') (hv : 130 * v ≤ b' ∧ b' + 1 < 130 * v + 110) (hbb : b ≤ b') (hv2 : v < 2) (K : ∀ μ', lwQ v b c e μ μ' → φ μ') : J l mX12_tellLaw (jZ0 5 G (pV φ)) G 0 0 86 [.ref 112, .int q, .int x2, .int x3] [] μ := by
  have cb : (μ.1 112 42).toNatClampNeg = b' := by rw [hb]; exact nI_clamp (by omega)
  have o1 : lO v b c μ (wI μ 143 b' (μ.1 112 48)) := lO_w (by decide) (by decide) hbb (by omega)
  have q1 : mO3 [143] [] [] μ (wI μ 143 b' (μ.1 112 48)) := mO3_wC (by decide) (by decide)
  have P1 := q1.gNN hP
  refine b_X12_tellLaw_86 (ψ1 := fun _ => True) hG hP (by rw [hb]; exact vp_in_nI (by omega) (by decide)) (fun _ => by rw [cb]; exact d_X12_must hG P1 (mB_off h q1) _) (fun _ μ2 h2 => ?_) (fun z => absurd z (mB_13 h).1) (fun z => absurd z (mB_13 h).1)
  obtain ⟨m2, o2⟩ := h2
  exact lb116 (b := b) (c := c) hG (o2.gNN P1) m2 (by rw [o2.f 42, q1.f 42]; exact hb) hv hbb hv2 (fun μ3 h3 => K μ3 ⟨h3.1, (o1.trans (lO_3 o2 (by decide))).trans h3.2⟩)
theorem lb80 (hG : gMM G) {μ : jM} (hP : gNN μ) {e : pF} (h : mB e μ) {b' : Nat} (hb : μ.1 112 42 = nI b') (hv : 130 * v ≤ b' ∧ b' + 1 < 130 * v + 110) (hbb : b ≤ b') (hv2 : v < 2) (K : ∀ μ', lwQ v b c e μ μ' → φ μ') : J l mX12_tellLaw (jZ0 5 G (pV φ)) G 0 0 80 [.ref 112, .int q, .int x2, .int x3] [] μ := by
  refine b_X12_tellLaw_80 hG hP (d_X12_must hG hP h _) (fun μ1 h1 => ?_)
  obtain ⟨m1, o1⟩ := h1
  exact lb86 (b := b) (c := c) hG (o1.gNN hP) m1 (by rw [o1.f 42]; exact hb) hv hbb hv2 (fun μ2 h2 => K μ2 ⟨h2.1, (lO_3 o1 (by decide)).trans h2.2⟩)
theorem lb53 (hG : gMM G) {μ : jM} (hP : gNN μ) {e : pF} (h : mB e μ) {b' : Nat} (hb : μ.1 112 42 = nI b') (hv : 130 * v ≤ b' ∧ b' + 1 < 130 * v + 110) (hbb : b ≤ b') (hv2 : v < 2) (K : ∀ μ', lwQ v b c e μ μ' → φ μ') : J l mX12_tellLaw (jZ0 5 G (pV φ)) G 0 0 53 [.ref 112, .int q, .int x2, .int x3] [] μ := by
  have cb : (μ.1 112 42).toNatClampNeg = b' := by rw [hb]; exact nI_clamp (by omega)
  have o1 : lO v b c μ (wI μ 141 b' (vp_nar .boolean 1)) := lO_w (by decide) (by decide) hbb (by omega)
  have o1' : lO v b c (wI μ 141 b' (vp_nar .boolean 1)) (wI (wI μ 141 b' (vp_nar .boolean 1)) 142 b' (μ.1 112 48)) := lO_w (by decide) (by decide) hbb (by omega)
  have q1 : mO3 [141, 142] [] [] μ (wI (wI μ 141 b' (vp_nar .boolean 1)) 142 b' (μ.1 112 48)) := (mO3_wC (by decide) (by decide)).trans (mO3_wC (by decide) (by decide))
  have P1 := q1.gNN hP
  refine b_X12_tellLaw_53 hG hP (by rw [hb]; exact vp_in_nI (by omega) (by decide)) (by rw [cb]; exact d_X12_expression (hi := 420 * v + 401) (c0 := c) hG P1 (mB_off h q1)) (fun μ2 h2 => ?_)
  obtain ⟨m2, o2⟩ := h2
  exact lb80 (b := b) (c := c) hG (o2.1.gNN P1) m2 (by rw [o2.1.f 42 (by decide), q1.f 42]; exact hb) hv hbb hv2 (fun μ3 h3 => K μ3 ⟨h3.1, ((o1.trans o1').trans (lO_e o2 (by decide))).trans h3.2⟩)
end ParL
