/-! THE REFERENCE reads: the text so far, on its side v -/
def dL (μ : jM) (v q : Nat) (L : sLaw) (b c : Nat) : Prop := (μ.1 139 (3 * v + q) = 0 ∧ μ.1 140 (3 * v + q) = 0 ∧ L = dLaw q) ∨ ∃ f, μ.1 139 (3 * v + q) = nI f ∧ μ.1 140 (3 * v + q) = nI (f + L.length) ∧ 130 * v ≤ f ∧ f + L.length ≤ b ∧ 0 < L.length ∧ lX μ f L (420 * v) c
def dI (v : Nat) (T : sT) (μ : jM) : Prop := μ.1 122 v = nI (T 0 0) ∧ μ.1 123 v = nI (T 0 1) ∧ μ.1 129 v = nI (T 0 2) ∧ μ.1 128 v = nI (T 0 3) ∧ μ.1 135 v = nI (T 0 4) ∧ μ.1 136 v = nI (T 0 5) ∧ μ.1 137 v = nI (T 0 6) ∧ μ.1 138 v = nI (T 0 7)
def dR (v : Nat) (T : sT) (μ : jM) : Prop := ∀ k, k < T 0 1 → μ.1 124 (12 * v + k) = nI (T 1 k) ∧ μ.1 125 (12 * v + k) = nI (T 2 k) ∧ μ.1 126 (12 * v + k) = nI (T 3 k) ∧ μ.1 127 (12 * v + k) = nI (T 4 k)
def dG (v : Nat) (T : sT) (μ : jM) : Prop := ∀ a, a < T 0 2 → μ.1 130 (7 * v + a) = nI (T 5 a) ∧ μ.1 131 (7 * v + a) = nI (T 6 a) ∧ μ.1 132 (7 * v + a) = nI (T 7 a) ∧ μ.1 133 (7 * v + a) = nI (T 8 a) ∧ μ.1 134 (7 * v + a) = nI (T 9 a)
def dB (v t : Nat) (Lw : Nat → sLaw) (μ : jM) : Prop := ∃ b c, μ.1 112 42 = nI b ∧ 130 * v ≤ b ∧ 4 * b ≤ 520 * v + t ∧ μ.1 112 48 = nI c ∧ 420 * v ≤ c ∧ c ≤ 420 * v + t ∧ ∀ q, q < 3 → dL μ v q (Lw q) b c
def dM (v t : Nat) (T : sT) (Lw : Nat → sLaw) (N : nL) (μ : jM) : Prop := (v < 2 ∧ μ.1 112 19 = nI v ∧ μ.1 112 12 = 0) ∧ dI v T μ ∧ dR v T μ ∧ dG v T μ ∧ nmM N μ ∧ dB v t Lw μ
/-- the cells C are none of the LAWS' -/
def nLw (C : List Nat) : Prop := ∀ c ∈ C, c < 139 ∨ 147 < c
theorem lX_off {b lo hi : Nat} {L : sLaw} {C F K : List Nat} {μ μ' : jM} (h : lX μ b L lo hi) (ho : mO3 C F K μ μ') (hC : nLw C) : lX μ' b L lo hi := fun j br hj => by
  have hc : ∀ c, 139 ≤ c → c ≤ 147 → μ'.1 c = μ.1 c := fun c a b => ho.2.1 c (by omega) (fun z => by have := hC c z; omega)
  exact brX_c (fun cc a b => by rw [hc cc (by omega) (by omega)]) (fun i _ _ => by rw [hc 146 (by decide) (by decide), hc 147 (by decide) (by decide)]; exact ⟨rfl, rfl⟩) (h j br hj)
theorem dB_off {v t t' : Nat} {Lw : Nat → sLaw} {C F K : List Nat} {μ μ' : jM} (h : dB v t Lw μ) (ho : mO3 C F K μ μ') (hC : nLw C) (ht : t ≤ t') (h1 : 42 ∉ F := by decide) (h2 : 48 ∉ F := by decide) : dB v t' Lw μ' := by
  obtain ⟨b, c, a1, a2, a3, a4, a5, a6, a7⟩ := h
  have hc : ∀ c, 139 ≤ c → c ≤ 147 → μ'.1 c = μ.1 c := fun c a b => ho.2.1 c (by omega) (fun z => by have := hC c z; omega)
  refine ⟨b, c, by rw [ho.f 42 h1]; exact a1, a2, by omega, by rw [ho.f 48 h2]; exact a4, a5, by omega, fun q hq => ?_⟩
  unfold dL
  rw [hc 139 (by decide) (by decide), hc 140 (by decide) (by decide)]
  rcases a7 q hq with z | ⟨f, z1, z2, z3, z4, z5, z6⟩
  · exact Or.inl z
  · exact Or.inr ⟨f, z1, z2, z3, z4, z5, lX_off z6 ho hC⟩
/-- what a reading of tokens leaves -/
theorem dM_3 {v t t' : Nat} {T : sT} {Lw : Nat → sLaw} {N : nL} {F : List Nat} {μ μ' : jM} (h : dM v t T Lw N μ) (ho : mO3 [] F [] μ μ') (ht : t ≤ t') (h1 : 42 ∉ F := by decide) (h2 : 48 ∉ F := by decide) (h3 : 19 ∉ F := by decide) (h4 : 12 ∉ F := by decide) (h5 : 20 ∉ F := by decide) : dM v t' T Lw N μ' := by
  obtain ⟨a1, a2, a3, a4, a5, a6⟩ := h
  refine ⟨by rw [ho.f 19 h3, ho.f 12 h4]; exact a1, ?_, ?_, ?_, nmM_off a5 ho h5, dB_off a6 ho (fun c hc => by cases hc) ht h1 h2⟩
  · unfold dI at a2 ⊢; rw [ho.c 122, ho.c 123, ho.c 129, ho.c 128, ho.c 135, ho.c 136, ho.c 137, ho.c 138]; exact a2
  · unfold dR at a3 ⊢; rw [ho.c 124, ho.c 125, ho.c 126, ho.c 127]; exact a3
  · unfold dG at a4 ⊢; rw [ho.c 130, ho.c 131, ho.c 132, ho.c 133, ho.c 134]; exact a4
theorem rmK_l2 {v b c q : Nat} {μ μ' : jM} (h : lO2 v b c (3 * v + q) μ μ') (hb : 130 * v ≤ b) (hc : 420 * v ≤ c) (hq : q < 3) : rmK v μ μ' := by
  obtain ⟨h1, h2, h3, h4⟩ := h
  refine ⟨h1.1, fun c _ => h1.2.2.2 c (by simp), fun f hf => h1.2.2.1 f (fun z => hf ?_), fun cc i hcc hn => ?_⟩
  · unfold rF fE at *; simp at z ⊢; omega
  · by_cases e : cc ∈ [139, 140, 141, 142, 143, 144, 145, 146, 147, 148]
    · unfold inS wid at hn
      simp only [List.mem_cons, List.not_mem_nil, or_false] at e
      rcases e with rfl | rfl | rfl | rfl | rfl | rfl | rfl | rfl | rfl | rfl
      · exact (h4 i (by simp at hn; omega)).1
      · exact (h4 i (by simp at hn; omega)).2
      · exact h3 141 (by decide) (by decide) i (by simp at hn; omega)
      · exact h3 142 (by decide) (by decide) i (by simp at hn; omega)
      · exact h3 143 (by decide) (by decide) i (by simp at hn; omega)
      · exact h3 144 (by decide) (by decide) i (by simp at hn; omega)
      · exact h3 145 (by decide) (by decide) i (by simp at hn; omega)
      · exact (h2 i (by simp at hn; omega)).1
      · exact (h2 i (by simp at hn; omega)).2
      · exact absurd (Or.inl (Or.inr rfl)) hn
    · rw [h1.2.1 cc hcc e]
theorem fid_8 {N : nL} {μ : jM} (hN : nmM N μ) (n : List Nat) : fid (plN N) n 0 = NON ∨ fid (plN N) n 0 < 8 := by
  have hq := fnd_fid N n 0 hN.1.2.1
  rw [← hq]
  have : ∀ M : nL, (∀ x ∈ M, x.2 = NON ∨ x.2 < 8) → fnd M n = NON ∨ fnd M n < 8 := by
    intro M
    induction M with
    | nil => intro _; exact Or.inl rfl
    | cons x M ih =>
      intro hM
      unfold fnd
      split
      · exact hM x List.mem_cons_self
      · exact ih (fun y hy => hM y (List.mem_cons_of_mem _ hy))
  exact this N (fun x hx => (hN.1.2.2 x hx).2)
theorem olP_8 {Y : List Int32} {b t : Nat} {w : Nat × Nat} {N : nL} {μ : jM} (hN : nmM N μ) {r : Nat × (Nat × Nat) × Nat} (e : olP Y b t w N = .ok r) : (r.2.2 = NON ∨ r.2.2 < 8) ∧ r.1 = t + 1 := by
  unfold olP at e
  obtain ⟨t1, e1, e⟩ := bd_inv e
  obtain ⟨-, rfl, -⟩ := xpc_ok e1
  cases e
  exact ⟨fid_8 hN _, rfl⟩
theorem nmb_t {Y : List Int32} {lo hi t : Nat} {w : Nat × Nat} {r : Nat × (Nat × Nat) × Nat} (e : nmb Y lo hi t w = .ok r) : r.1 = t + 1 := by
  unfold nmb at e
  obtain ⟨t1, e1, e⟩ := bd_inv e
  obtain ⟨-, rfl, -⟩ := xpc_ok e1
  cases e; rfl
theorem opt_le {Y : List Int32} {k t : Nat} {r : Nat × Nat} (e : opt Y k t = .ok r) : t ≤ r.1 ∧ (r.2 = 0 ∨ r.2 = 1) := by
  unfold opt at e
  split at e
  · obtain ⟨t1, e1, e⟩ := bd_inv e
    obtain ⟨rfl, -⟩ := tke_ok e1
    cases e; exact ⟨Nat.le_succ _, Or.inr rfl⟩
  · cases e; exact ⟨Nat.le_refl _, Or.inl rfl⟩
theorem nwN_t {Y : List Int32} {t : Nat} {w : Nat × Nat} {N : nL} {r : Nat × (Nat × Nat)} (e : nwN Y t w N = .ok r) : r.1 = t + 1 ∧ kd Y t = 1 := by
  unfold nwN at e
  obtain ⟨t1, e1, e⟩ := bd_inv e
  obtain ⟨h, rfl, -⟩ := xpc_ok e1
  cases e; exact ⟨rfl, h⟩
theorem or_add {a n : Nat} (h : a < 2 ^ n) : nI a ||| nI (2 ^ n) = nI (a + 2 ^ n) := by
  have e : a + 2 ^ n = a ||| 2 ^ n := by
    have := Nat.two_pow_add_eq_or_of_lt h 1
    rw [Nat.mul_one] at this
    rw [Nat.add_comm, this, Nat.or_comm]
  rw [e]
  apply Int32.toBitVec_inj.mp
  rw [Int32.toBitVec_or]
  show BitVec.ofNat 32 a ||| BitVec.ofNat 32 (2 ^ n) = BitVec.ofNat 32 (a ||| 2 ^ n)
  exact (BitVec.ofNat_or).symm
theorem in12 {v k : Nat} (c : Nat) (hc : c = 124 ∨ c = 125 ∨ c = 126 ∨ c = 127) (hk : k < 12) : inS v c (12 * v + k) := by
  refine Or.inr ⟨by omega, by omega, ?_⟩
  have : wid c = 12 := by rcases hc with rfl | rfl | rfl | rfl <;> rfl
  rw [this]; omega
theorem in7 {v k : Nat} (c : Nat) (hc : 130 ≤ c ∧ c ≤ 134) (hk : k < 7) : inS v c (7 * v + k) := by
  refine Or.inr ⟨by omega, by omega, ?_⟩
  have : wid c = 7 := by
    have : c = 130 ∨ c = 131 ∨ c = 132 ∨ c = 133 ∨ c = 134 := by omega
    rcases this with rfl | rfl | rfl | rfl | rfl <;> rfl
  rw [this]; omega
theorem in1 {v : Nat} (c : Nat) (hc : c = 122 ∨ c = 123 ∨ c = 128 ∨ c = 129 ∨ (135 ≤ c ∧ c ≤ 138)) : inS v c v := by
  refine Or.inr ⟨by omega, by omega, ?_⟩
  have : wid c = 1 := by
    have : c = 122 ∨ c = 123 ∨ c = 128 ∨ c = 129 ∨ c = 135 ∨ c = 136 ∨ c = 137 ∨ c = 138 := by omega
    rcases this with rfl | rfl | rfl | rfl | rfl | rfl | rfl | rfl <;> rfl
  rw [this]; omega
theorem rmK_g {v : Nat} {μ μ' : jM} (h : mO3 [] fG [] μ μ') : rmK v μ μ' := rmK_3 h (by decide)
section ParD
variable {l : Launch} {G : jG} {Y : List Int32} {w : Nat × Nat} {v : Nat} {T : sT} {Lw : Nat → sLaw} {N : nL}
def tlR' (Y : List Int32) (t1 : Nat) (w : Nat × Nat) (T : sT) (Lw : Nat → sLaw) (N : nL) : Except pF pS := bd (olP Y NON t1 w N) fun a => bd (olP Y a.2.2 a.1 a.2.1 N) fun b => bd (nmb Y 1 9 b.1 b.2.1) fun h => bd (opt Y 22 h.1) fun f => bd (opt Y 23 f.1) fun g => bd (xpc Y 4 g.1) fun t7 => .ok (t7, h.2.1, rdT T a.2.2 b.2.2 h.2.2 f.2 g.2, Lw, N)
/-- what a reading makes of the text -/
def dQ (Y : List Int32) (v : Nat) (s : pS) (μ : jM) : Prop := okM Y s.1 s.2.1 μ ∧ dM v s.1 s.2.2.1 s.2.2.2.1 s.2.2.2.2 μ
theorem c_X12_tellRoad (hG : gMM G) {μ : jM} (hP : gNN μ) (hY : Y.length ≤ 2000) {t : Nat} (h : okM Y t w μ) (hd : dM v t T Lw N μ) (h12 : T 0 1 < 12) (hg : T 0 3 < 2 ^ T 0 1) : jC0 l mX12_tellRoad 5 G [.ref 112] μ (pV fun μ' => pR (tlR' Y t w T Lw N) (dQ Y v) mB μ' ∧ rmK v μ μ') := by
  refine jC0.of' (ls := [.ref 112, .null, .null]) rfl rfl rfl (fun _ _ => Nat.le_of_ble_eq_true rfl) ?_
  obtain ⟨⟨hv2, h19, h12'⟩, dI', dR', dG', hN, hB⟩ := id hd
  have iv : vp_in (μ.1 112 19) 2 := by rw [h19]; exact vp_in_nI hv2 (by decide)
  have cv : (μ.1 112 19).toNatClampNeg = v := by rw [h19]; exact nI_clamp (by omega)
  have eK : 12 * μ.1 112 19 + μ.1 123 (μ.1 112 19).toNatClampNeg = nI (12 * v + T 0 1) := by rw [cv, dI'.2.1, h19, show (12 : Int32) = nI 12 from rfl, pk_mul, nI_add]
  have cK : (nI (12 * v + T 0 1)).toNatClampNeg = 12 * v + T 0 1 := nI_clamp (by omega)
  have iK : vp_in (nI (12 * v + T 0 1)) 24 := vp_in_nI (by omega) (by decide)
  have h0 : uM Y (.ok t : Except pF Nat) id (fun _ => w) μ := h
  refine b_X12_tellRoad_0 hG hP iv (u_knowP hG hP hY h0 hN) ?_
  rintro v1 μ1 ⟨g1, h1, o1⟩
  rw [eK]
  have P1 := o1.gNN hP
  have q1 : mO3 [124] [] [] μ1 (wI μ1 124 (12 * v + T 0 1) v1) := mO3_wC (by decide) (by decide)
  have Q1 := q1.gNN P1
  have k1 : rmK v μ1 (wI μ1 124 (12 * v + T 0 1) v1) := rmK_wC (by decide) (in12 124 (by decide) h12)
  have N1 := nmM_off (nmM_off hN o1) q1
  refine b_X12_tellRoad_27 hG P1 iK iK (by rw [cK, wI_at]; exact u_other (bb := fun p => p.2.2.2) hG Q1 hY (uM_off h1 q1) N1 (fun p hp => ⟨g1 p hp, (olP_8 hN (px_inv hp).2).1⟩)) ?_
  rintro v2 μ2 ⟨g2, h2, o2⟩
  have P2 := o2.gNN Q1
  have q2 : mO3 [125] [] [] μ2 (wI μ2 125 (12 * v + T 0 1) v2) := mO3_wC (by decide) (by decide)
  have Q2 := q2.gNN P2
  have k2 : rmK v μ2 (wI μ2 125 (12 * v + T 0 1) v2) := rmK_wC (by decide) (in12 125 (by decide) h12)
  refine b_X12_tellRoad_43 hG P2 iK (by rw [cK]; exact u_bounded (lo := 1) (hi := 9) hG Q2 hY (uM_off h2 q2) rfl rfl (by decide) (by decide)) ?_
  rintro v3 μ3 ⟨g3, h3, o3⟩
  have P3 := o3.gNN Q2
  have q3 : mO3 [126] [] [] μ3 (wI μ3 126 (12 * v + T 0 1) v3) := mO3_wC (by decide) (by decide)
  have Q3 := q3.gNN P3
  have k3 : rmK v μ3 (wI μ3 126 (12 * v + T 0 1) v3) := rmK_wC (by decide) (in12 126 (by decide) h12)
  refine b_X12_tellRoad_56 hG P3 iK (by rw [cK]; exact u_isTold (k := 22) hG Q3 (uM_off h3 q3) rfl (by decide)) ?_
  rintro v4 μ4 ⟨g4, h4, o4⟩
  have P4 := o4.gNN Q3
  have q4 : mO3 [127] [] [] μ4 (wI μ4 127 (12 * v + T 0 1) (vp_nar .boolean v4)) := mO3_wC (by decide) (by decide)
  have Q4 := q4.gNN P4
  have k4 : rmK v μ4 (wI μ4 127 (12 * v + T 0 1) (vp_nar .boolean v4)) := rmK_wC (by decide) (in12 127 (by decide) h12)
  refine b_X12_tellRoad_68 hG P4 iK (by rw [cK]; exact u_isTold (k := 23) hG Q4 (uM_off h4 q4) rfl (by decide)) ?_
  rintro v5 μ5 ⟨g5, h5, o5⟩
  have P5 := o5.gNN Q4
  refine b_X12_tellRoad_75 hG P5 (u_must (k := 4) hG P5 h5 rfl (by decide)) ?_
  rintro μ6 ⟨h6, o6⟩
  have P6 := o6.gNN P5
  have kk : rmK v μ μ6 := (((((((((rmK_g o1).trans k1).trans (rmK_g o2)).trans k2).trans (rmK_g o3)).trans k3).trans (rmK_g o4)).trans k4).trans (rmK_g o5)).trans (rmK_g (fG_F o6))
  generalize hx6 : (px _ _ : Except pF _) = x6 at h6
  have hfin : tlR' Y t w T Lw N = bd x6 fun p => .ok (p.2, p.1.1.1.2.2.1, rdT T p.1.1.1.1.1.2.2.2 p.1.1.1.1.2.2.2 p.1.1.1.2.2.2 p.1.1.2.2 p.1.2.2, Lw, N) := by
    rw [← hx6]; simp only [px_bd, bd_ok]; rfl
  rw [hfin]
  cases x6 with
  | error f =>
    have m6 : mB f μ6 := h6
    exact b_X12_tellRoad_81 hG P6 (fun z => absurd z (mB_13 m6).2.1) (fun z => absurd z (mB_13 m6).2.1) (fun z => absurd z (mB_13 m6).2.1) (fun z => absurd z (mB_13 m6).2.1) (fun _ => ⟨m6, kk⟩)
  | ok p =>
    have k6 := pR_ok h6 rfl
    obtain ⟨x5, y6⟩ := px_inv hx6
    obtain ⟨x4, y5⟩ := px_inv x5
    obtain ⟨x3, y4⟩ := px_inv x4
    obtain ⟨x2, y3⟩ := px_inv x3
    obtain ⟨x1, y2⟩ := px_inv x2
    obtain ⟨x0, y1⟩ := px_inv x1
    have e1 := g1 _ x1
    have e2 := g2 _ x2
    have e3 := g3 _ x3
    have e4 := g4 _ x4
    have e5 := g5 _ x5
    have ek6 := k6.2.2.2.1
    have tle : t ≤ p.2 := by
      have z0 : t = p.1.1.1.1.1.1 := Except.ok.inj x0
      have z1 := (olP_8 hN y1).2
      have z2 := (olP_8 hN y2).2
      have z3 := nmb_t y3
      have z4 := (opt_le y4).1
      have z5 := (opt_le y5).1
      have z6 := (xpc_ok y6).2.1
      simp only [id] at z1 z2 z3 z4 z5 z6
      omega
    have f01 := (opt_le y4).2
    have g01 := (opt_le y5).2
    obtain ⟨A, hA⟩ : ∃ A, p.1.1.1.1.1.2.2.2 = A := ⟨_, rfl⟩
    obtain ⟨B, hB'⟩ : ∃ B, p.1.1.1.1.2.2.2 = B := ⟨_, rfl⟩
    obtain ⟨H, hH⟩ : ∃ H, p.1.1.1.2.2.2 = H := ⟨_, rfl⟩
    obtain ⟨f, hf⟩ : ∃ f, p.1.1.2.2 = f := ⟨_, rfl⟩
    obtain ⟨g, hg'⟩ : ∃ g, p.1.2.2 = g := ⟨_, rfl⟩
    have e4' : vp_nar .boolean v4 = nI f := by
      rw [e4, hf]; rw [hf] at f01
      rcases f01 with z | z <;> rw [z] <;> decide
    rw [hA] at e1; rw [hB'] at e2; rw [hH] at e3; rw [hg'] at e5 g01
    rw [bd_ok, hA, hB', hH, hf, hg']
    have c4 : μ6.1 124 = upd (μ.1 124) (12 * v + T 0 1) (nI A) := by rw [o6.c 124, o5.c 124, q4.c 124, o4.c 124, q3.c 124, o3.c 124, q2.c 124, o2.c 124, wI_eq, o1.c 124, e1]
    have c5 : μ6.1 125 = upd (μ.1 125) (12 * v + T 0 1) (nI B) := by rw [o6.c 125, o5.c 125, q4.c 125, o4.c 125, q3.c 125, o3.c 125, wI_eq, o2.c 125, q1.c 125, o1.c 125, e2]
    have c6 : μ6.1 126 = upd (μ.1 126) (12 * v + T 0 1) (nI H) := by rw [o6.c 126, o5.c 126, q4.c 126, o4.c 126, wI_eq, o3.c 126, q2.c 126, o2.c 126, q1.c 126, o1.c 126, e3]
    have c7 : μ6.1 127 = upd (μ.1 127) (12 * v + T 0 1) (nI f) := by rw [o6.c 127, o5.c 127, wI_eq, o4.c 127, q3.c 127, o3.c 127, q2.c 127, o2.c 127, q1.c 127, o1.c 127, e4']
    have oM : mO3 [124, 125, 126, 127] fG [] μ μ6 := by
      have m1 : mO3 [124, 125, 126, 127] fG [] μ μ1 := o1.mono (by decide) (by decide) (by decide)
      have m2 := m1.trans (q1.mono (by decide) (by decide) (by decide))
      have m3 := m2.trans (o2.mono (by decide) (by decide) (by decide))
      have m4 := m3.trans (q2.mono (by decide) (by decide) (by decide))
      have m5 := m4.trans (o3.mono (by decide) (by decide) (by decide))
      have m6 := m5.trans (q3.mono (by decide) (by decide) (by decide))
      have m7 := m6.trans (o4.mono (by decide) (by decide) (by decide))
      have m8 := m7.trans (q4.mono (by decide) (by decide) (by decide))
      have m9 := m8.trans (o5.mono (by decide) (by decide) (by decide))
      exact m9.trans (o6.mono (by decide) (by decide) (by decide))
    have f19 : μ6.1 112 19 = nI v := by rw [oM.f 19]; exact h19
    have cv6 : (μ6.1 112 19).toNatClampNeg = v := by rw [f19]; exact nI_clamp (by omega)
    have iv6 : vp_in (μ6.1 112 19) 2 := by rw [f19]; exact vp_in_nI hv2 (by decide)
    have d123 : μ6.1 123 v = nI (T 0 1) := by rw [oM.c 123]; exact dI'.2.1
    have d128 : μ6.1 128 v = nI (T 0 3) := by rw [oM.c 128]; exact dI'.2.2.2.1
    /- what stands in the end -/
    have fin : ∀ μ7 : jM, mO3 [123, 128] [] [] μ6 μ7 → μ7.1 123 v = nI (T 0 1 + 1) → μ7.1 128 v = nI (T 0 3 + g * 2 ^ T 0 1) → (∀ i, i ≠ v → μ7.1 123 i = μ6.1 123 i ∧ μ7.1 128 i = μ6.1 128 i) → (pR (.ok (p.2, p.1.1.1.2.2.1, rdT T A B H f g, Lw, N) : Except pF pS) (dQ Y v) mB μ7 ∧ rmK v μ μ7) := by
      intro μ7 o7 w1 w3 wi
      have hx : ∀ c, c ≠ 112 → c ≠ 123 → c ≠ 128 → μ7.1 c = μ6.1 c := fun c a b d => o7.2.1 c a (by simp; omega)
      refine ⟨⟨okM_off k6 o7, ⟨hv2, by rw [o7.f 19]; exact f19, by rw [o7.f 12, oM.f 12]; exact h12'⟩, ?_, ?_, ?_, ?_, ?_⟩, kk.trans ⟨o7.1, fun c _ => o7.2.2.2 c (by simp), fun ff _ => o7.2.2.1 ff (by simp), fun c i hc hn => ?_⟩⟩
      · refine ⟨?_, w1, ?_, w3, ?_, ?_, ?_, ?_⟩
        · rw [hx 122 (by decide) (by decide) (by decide), oM.c 122]; exact dI'.1
        · rw [hx 129 (by decide) (by decide) (by decide), oM.c 129]; exact dI'.2.2.1
        · rw [hx 135 (by decide) (by decide) (by decide), oM.c 135]; exact dI'.2.2.2.2.1
        · rw [hx 136 (by decide) (by decide) (by decide), oM.c 136]; exact dI'.2.2.2.2.2.1
        · rw [hx 137 (by decide) (by decide) (by decide), oM.c 137]; exact dI'.2.2.2.2.2.2.1
        · rw [hx 138 (by decide) (by decide) (by decide), oM.c 138]; exact dI'.2.2.2.2.2.2.2
      · intro k hk
        have hk : k < T 0 1 + 1 := hk
        rw [hx 124 (by decide) (by decide) (by decide), hx 125 (by decide) (by decide) (by decide), hx 126 (by decide) (by decide) (by decide), hx 127 (by decide) (by decide) (by decide), c4, c5, c6, c7]
        by_cases ek : k = T 0 1
        · subst ek
          rw [upd_at, upd_at, upd_at, upd_at]
          have z1 : rdT T A B H f g 1 (T 0 1) = A := by simp [rdT, sT1]
          have z2 : rdT T A B H f g 2 (T 0 1) = B := by simp [rdT, sT1]
          have z3 : rdT T A B H f g 3 (T 0 1) = H := by simp [rdT, sT1]
          have z4 : rdT T A B H f g 4 (T 0 1) = f := by simp [rdT, sT1]
          show nI A = nI (rdT T A B H f g 1 (T 0 1)) ∧ nI B = nI (rdT T A B H f g 2 (T 0 1)) ∧ nI H = nI (rdT T A B H f g 3 (T 0 1)) ∧ nI f = nI (rdT T A B H f g 4 (T 0 1))
          rw [z1, z2, z3, z4]; exact ⟨rfl, rfl, rfl, rfl⟩
        · have z : ∀ x, 1 ≤ x → rdT T A B H f g x k = T x k := fun x hx => by
            have hx0 : x ≠ 0 := by omega
            simp [rdT, sT1, ek, hx0]
          rw [upd_ne (by omega), upd_ne (by omega), upd_ne (by omega), upd_ne (by omega)]
          show _ = nI (rdT T A B H f g 1 k) ∧ _ = nI (rdT T A B H f g 2 k) ∧ _ = nI (rdT T A B H f g 3 k) ∧ _ = nI (rdT T A B H f g 4 k)
          rw [z 1 (by decide), z 2 (by decide), z 3 (by decide), z 4 (by decide)]
          exact dR' k (by omega)
      · intro a ha
        rw [hx 130 (by decide) (by decide) (by decide), hx 131 (by decide) (by decide) (by decide), hx 132 (by decide) (by decide) (by decide), hx 133 (by decide) (by decide) (by decide), hx 134 (by decide) (by decide) (by decide), oM.c 130, oM.c 131, oM.c 132, oM.c 133, oM.c 134]
        exact dG' a ha
      · exact nmM_off (nmM_off hN oM) o7
      · exact dB_off (dB_off hB oM (by intro c hc; simp at hc; omega) tle) o7 (by intro c hc; simp at hc; omega) (Nat.le_refl _)
      · by_cases ec : c = 123 ∨ c = 128
        · by_cases ei : i = v
          · exact absurd (by rw [ei]; exact in1 c (by omega)) hn
          · rcases ec with rfl | rfl
            · exact (wi i ei).1
            · exact (wi i ei).2
        · rw [hx c hc (by omega) (by omega)]
    refine b_X12_tellRoad_81 hG P6 (fun _ _ => iv6) (fun _ z0 => ?_) (fun _ _ => iv6) (fun _ z0 => ?_) (fun z => absurd (okM_13 k6).2.1 z)
    · rw [cv6, d123, nI_inc]
      rw [e5] at z0
      have hg0 : g = 0 := by
        rcases g01 with z | z
        · exact z
        · rw [z] at z0; exact absurd z0 (by decide)
      refine fin _ (mO3_wC (by decide) (by decide)) wI_at ?_ (fun i hi => ⟨wI_off' hi, by rw [wI_ne (by decide)]⟩)
      rw [wI_ne (by decide), d128, hg0, Nat.zero_mul, Nat.add_zero]
    · rw [cv6, d123, nI_inc, d128, pow_sh (T 0 1) (by omega), or_add hg]
      rw [e5] at z0
      have hg1 : g = 1 := by
        rcases g01 with z | z
        · rw [z] at z0; exact absurd rfl z0
        · exact z
      refine fin _ ((mO3_wC (by decide) (by decide)).trans (mO3_wC (by decide) (by decide))) wI_at ?_ (fun i hi => ⟨by rw [wI_off' hi, wI_ne (by decide)], by rw [wI_ne (by decide), wI_off' hi]⟩)
      rw [wI_ne (by decide), wI_at, hg1, Nat.one_mul]
end ParD
