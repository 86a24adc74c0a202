/-! THE REFERENCE reads a GHOST -/
section ParG
variable {l : Launch} {G : jG} {Y : List Int32} {w : Nat × Nat} {v : Nat} {T : sT} {Lw : Nat → sLaw} {N : nL}
def tlG' (Y : List Int32) (t1 : Nat) (w : Nat × Nat) (T : sT) (Lw : Nat → sLaw) (N : nL) : Except pF pS := bd (nwN Y t1 w N) fun n => bd (olP Y NON n.1 n.2 N) fun a => bd (olP Y a.2.2 a.1 a.2.1 N) fun b => bd (nmb Y 0 9 b.1 b.2.1) fun k => bd (nmb Y 0 99 k.1 k.2.1) fun c => bd (nmb Y 1 9 c.1 c.2.1) fun e => bd (xpc Y 4 e.1) fun t8 => .ok (t8, e.2.1, ghT T a.2.2 b.2.2 k.2.2 c.2.2 e.2.2, Lw, N ++ [(nm Y t1, NON)])
theorem pl_gh_len {N : nL} : (plN N).length + (ghN N).length = N.length := by
  unfold plN ghN
  rw [List.length_map, List.length_map]
  induction N with
  | nil => rfl
  | cons x N ih =>
    by_cases h : x.2 = NON
    · rw [List.filter_cons_of_neg (by simp [h]), List.filter_cons_of_pos (by simp [h])]
      simp only [List.length_cons]; omega
    · rw [List.filter_cons_of_pos (by simp [h]), List.filter_cons_of_neg (by simp [h])]
      simp only [List.length_cons]; omega
theorem c_X12_tellGhost (hG : gMM G) {μ : jM} (hP : gNN μ) (hY : Y.length ≤ 2000) {t : Nat} (h : okM Y t w μ) (hd : dM v t T Lw N μ) (h7 : T 0 2 < 7) (h15 : N.length < 15) : jC0 l mX12_tellGhost 5 G [.ref 112] μ (pV fun μ' => pR (tlG' Y t w T Lw N) (dQ Y v) mB μ' ∧ rmK v μ μ') := by
  refine jC0.of' (ls := [.ref 112, .null, .null]) rfl rfl rfl (fun _ _ => Nat.le_of_ble_eq_true rfl) ?_
  obtain ⟨⟨hv2, h19, h12'⟩, dI', dR', dG', hN, hB⟩ := id hd
  have iv : vp_in (μ.1 112 19) 2 := by rw [h19]; exact vp_in_nI hv2 (by decide)
  have cv : (μ.1 112 19).toNatClampNeg = v := by rw [h19]; exact nI_clamp (by omega)
  have eK : 7 * μ.1 112 19 + μ.1 129 (μ.1 112 19).toNatClampNeg = nI (7 * v + T 0 2) := by rw [cv, dI'.2.2.1, h19, show (7 : Int32) = nI 7 from rfl, pk_mul, nI_add]
  have cK : (nI (7 * v + T 0 2)).toNatClampNeg = 7 * v + T 0 2 := nI_clamp (by omega)
  have iK : vp_in (nI (7 * v + T 0 2)) 14 := vp_in_nI (by omega) (by decide)
  have h0 : uM Y (.ok t : Except pF Nat) id (fun _ => w) μ := h
  refine b_X12_tellGhost_0 hG hP iv (u_named hG hP hY h0 hN) ?_
  rintro v0 μ0 ⟨g0, h0', o0⟩
  rw [eK]
  have ev0 : v0 = nI t := g0 t rfl
  have P0 := o0.gNN hP
  have N0 := nmM_off hN o0
  refine b_X12_tellGhost_22 hG P0 (u_knowP hG P0 hY h0' N0) ?_
  rintro v1 μ1 ⟨g1, h1, o1⟩
  have P1 := o1.gNN P0
  have q1 : mO3 [130] [] [] μ1 (wI μ1 130 (7 * v + T 0 2) v1) := mO3_wC (by decide) (by decide)
  have Q1 := q1.gNN P1
  have k1 : rmK v μ1 (wI μ1 130 (7 * v + T 0 2) v1) := rmK_wC (by decide) (in7 130 (by decide) h7)
  have N1 := nmM_off (nmM_off N0 o1) q1
  refine b_X12_tellGhost_32 hG P1 iK iK (by rw [cK, wI_at]; exact u_other (bb := fun p => p.2.2.2) hG Q1 hY (uM_off h1 q1) N1 (fun p hp => ⟨g1 p hp, (olP_8 hN (px_inv hp).2).1⟩)) ?_
  rintro v2 μ2 ⟨g2, h2, o2⟩
  have P2 := o2.gNN Q1
  have q2 : mO3 [131] [] [] μ2 (wI μ2 131 (7 * v + T 0 2) v2) := mO3_wC (by decide) (by decide)
  have Q2 := q2.gNN P2
  have k2 : rmK v μ2 (wI μ2 131 (7 * v + T 0 2) v2) := rmK_wC (by decide) (in7 131 (by decide) h7)
  refine b_X12_tellGhost_48 hG P2 iK (by rw [cK]; exact u_bounded (lo := 0) (hi := 9) hG Q2 hY (uM_off h2 q2) rfl rfl (by decide) (by decide)) ?_
  rintro v3 μ3 ⟨g3, h3, o3⟩
  have P3 := o3.gNN Q2
  have q3 : mO3 [132] [] [] μ3 (wI μ3 132 (7 * v + T 0 2) v3) := mO3_wC (by decide) (by decide)
  have Q3 := q3.gNN P3
  have k3 : rmK v μ3 (wI μ3 132 (7 * v + T 0 2) v3) := rmK_wC (by decide) (in7 132 (by decide) h7)
  refine b_X12_tellGhost_61 hG P3 iK (by rw [cK]; exact u_bounded (lo := 0) (hi := 99) hG Q3 hY (uM_off h3 q3) rfl rfl (by decide) (by decide)) ?_
  rintro v4 μ4 ⟨g4, h4, o4⟩
  have P4 := o4.gNN Q3
  have q4 : mO3 [133] [] [] μ4 (wI μ4 133 (7 * v + T 0 2) v4) := mO3_wC (by decide) (by decide)
  have Q4 := q4.gNN P4
  have k4 : rmK v μ4 (wI μ4 133 (7 * v + T 0 2) v4) := rmK_wC (by decide) (in7 133 (by decide) h7)
  refine b_X12_tellGhost_74 hG P4 iK (by rw [cK]; exact u_bounded (lo := 1) (hi := 9) hG Q4 hY (uM_off h4 q4) rfl rfl (by decide) (by decide)) ?_
  rintro v5 μ5 ⟨g5, h5, o5⟩
  have P5 := o5.gNN Q4
  have q5 : mO3 [134] [] [] μ5 (wI μ5 134 (7 * v + T 0 2) v5) := mO3_wC (by decide) (by decide)
  have Q5 := q5.gNN P5
  have k5 : rmK v μ5 (wI μ5 134 (7 * v + T 0 2) v5) := rmK_wC (by decide) (in7 134 (by decide) h7)
  have oN : mO3 [130, 131, 132, 133, 134] fG [] μ (wI μ5 134 (7 * v + T 0 2) v5) := by
    have m0 : mO3 [130, 131, 132, 133, 134] fG [] μ μ0 := o0.mono (by decide) (by decide) (by decide)
    have m1 := m0.trans (o1.mono (by decide) (by decide) (by decide))
    have m2 := m1.trans (q1.mono (by decide) (by decide) (by decide))
    have m3 := m2.trans (o2.mono (by decide) (by decide) (by decide))
    have m4 := m3.trans (q2.mono (by decide) (by decide) (by decide))
    have m5 := m4.trans (o3.mono (by decide) (by decide) (by decide))
    have m6 := m5.trans (q3.mono (by decide) (by decide) (by decide))
    have m7 := m6.trans (o4.mono (by decide) (by decide) (by decide))
    have m8 := m7.trans (q4.mono (by decide) (by decide) (by decide))
    have m9 := m8.trans (o5.mono (by decide) (by decide) (by decide))
    exact m9.trans (q5.mono (by decide) (by decide) (by decide))
  have N5 := nmM_off hN oN
  have tlt : ∀ a, (px (px (px (px (px (px (.ok t : Except pF Nat) fun a => nwN Y (id a) w N) fun p => olP Y NON p.2.1 p.2.2 N) fun p => olP Y p.2.2.2 p.2.1 p.2.2.1 N) fun p => nmb Y 0 9 p.2.1 p.2.2.1) fun p => nmb Y 0 99 p.2.1 p.2.2.1) fun p => nmb Y 1 9 p.2.1 p.2.2.1) = .ok a → t < a.2.1 ∧ kd Y t = 1 := by
    intro a ha
    obtain ⟨x5, y6⟩ := px_inv ha
    obtain ⟨x4, y5⟩ := px_inv x5
    obtain ⟨x3, y4⟩ := px_inv x4
    obtain ⟨x2, y3⟩ := px_inv x3
    obtain ⟨x1, y2⟩ := px_inv x2
    obtain ⟨x0, y1⟩ := px_inv x1
    have z0 : t = a.1.1.1.1.1.1 := Except.ok.inj x0
    have z1 := nwN_t y1
    have z2 := (olP_8 hN y2).2
    have z3 := (olP_8 hN y3).2
    have z4 := nmb_t y4
    have z5 := nmb_t y5
    have z6 := nmb_t y6
    simp only [id] at z1 z2 z3 z4 z5 z6
    rw [← z0] at z1
    exact ⟨by omega, z1.2⟩
  refine b_X12_tellGhost_87 hG P5 iK (by rw [cK]; exact u_ends (tok := fun _ => t) (at' := fun _ => NON) hG Q5 (uM_off h5 q5) N5 (fun a ha => ⟨⟨ev0, nI_NON.symm⟩, tlt a ha, Or.inl rfl, h15⟩)) ?_
  rintro μ6 ⟨h6, o6⟩
  have P6 := o6.gNN Q5
  have kk : rmK v μ (wI μ5 134 (7 * v + T 0 2) v5) := ((((((((((rmK_g o0).trans (rmK_g o1)).trans k1).trans (rmK_g o2)).trans k2).trans (rmK_g o3)).trans k3).trans (rmK_g o4)).trans k4).trans (rmK_g o5)).trans k5
  have k6' : rmK v (wI μ5 134 (7 * v + T 0 2) v5) μ6 := ⟨o6.1, fun c hc => o6.2.2.2 c (by simp; omega), fun ff hf => o6.2.2.1 ff (fun z => hf (by unfold rF; simp at z ⊢; omega)), fun c i hc hn => by
    by_cases ec : c = 121
    · exact absurd (Or.inl (Or.inl ec)) hn
    · rw [o6.2.1 c hc (by simp; omega)]⟩
  have kk6 := kk.trans k6'
  generalize hx6 : (px _ _ : Except pF _) = x6 at h6
  have hfin : tlG' Y t w T Lw N = bd x6 fun p => .ok (p.2, p.1.2.2.1, ghT T p.1.1.1.1.1.2.2.2 p.1.1.1.1.2.2.2 p.1.1.1.2.2.2 p.1.1.2.2.2 p.1.2.2.2, Lw, N ++ [(nm Y t, NON)]) := by
    rw [← hx6]; simp only [px_bd, bd_ok]; rfl
  rw [hfin]
  cases x6 with
  | error f =>
    have m6 : mB f μ6 := h6
    exact b_X12_tellGhost_94 hG P6 (fun _ => ⟨m6, kk6⟩) (fun z => absurd z (mB_13 m6).1) (fun z => absurd z (mB_13 m6).1)
  | ok p =>
    obtain ⟨k6, N6⟩ := pR_ok h6 rfl
    obtain ⟨x6, y7⟩ := px_inv hx6
    have htl := (tlt _ x6).1
    obtain ⟨x5, y6⟩ := px_inv x6
    obtain ⟨x4, y5⟩ := px_inv x5
    obtain ⟨x3, y4⟩ := px_inv x4
    obtain ⟨x2, y3⟩ := px_inv x3
    obtain ⟨x1, y2⟩ := px_inv x2
    have e1 := g1 _ x2
    have e2 := g2 _ x3
    have e3 := g3 _ x4
    have e4 := g4 _ x5
    have e5 := g5 _ x6
    have tle : t ≤ p.2 := by
      have z7 := (xpc_ok y7).2.1
      omega
    obtain ⟨A, hA⟩ : ∃ A, p.1.1.1.1.1.2.2.2 = A := ⟨_, rfl⟩
    obtain ⟨B, hB'⟩ : ∃ B, p.1.1.1.1.2.2.2 = B := ⟨_, rfl⟩
    obtain ⟨H, hH⟩ : ∃ H, p.1.1.1.2.2.2 = H := ⟨_, rfl⟩
    obtain ⟨f, hf⟩ : ∃ f, p.1.1.2.2.2 = f := ⟨_, rfl⟩
    obtain ⟨g, hg'⟩ : ∃ g, p.1.2.2.2 = g := ⟨_, rfl⟩
    rw [hA] at e1; rw [hB'] at e2; rw [hH] at e3; rw [hf] at e4; rw [hg'] at e5
    rw [bd_ok, hA, hB', hH, hf, hg']
    have c0 : μ6.1 130 = upd (μ.1 130) (7 * v + T 0 2) (nI A) := by rw [o6.c 130, q5.c 130, o5.c 130, q4.c 130, o4.c 130, q3.c 130, o3.c 130, q2.c 130, o2.c 130, wI_eq, o1.c 130, o0.c 130, e1]
    have c1 : μ6.1 131 = upd (μ.1 131) (7 * v + T 0 2) (nI B) := by rw [o6.c 131, q5.c 131, o5.c 131, q4.c 131, o4.c 131, q3.c 131, o3.c 131, wI_eq, o2.c 131, q1.c 131, o1.c 131, o0.c 131, e2]
    have c2 : μ6.1 132 = upd (μ.1 132) (7 * v + T 0 2) (nI H) := by rw [o6.c 132, q5.c 132, o5.c 132, q4.c 132, o4.c 132, wI_eq, o3.c 132, q2.c 132, o2.c 132, q1.c 132, o1.c 132, o0.c 132, e3]
    have c3 : μ6.1 133 = upd (μ.1 133) (7 * v + T 0 2) (nI f) := by rw [o6.c 133, q5.c 133, o5.c 133, wI_eq, o4.c 133, q3.c 133, o3.c 133, q2.c 133, o2.c 133, q1.c 133, o1.c 133, o0.c 133, e4]
    have c4 : μ6.1 134 = upd (μ.1 134) (7 * v + T 0 2) (nI g) := by rw [o6.c 134, wI_eq, o5.c 134, q4.c 134, o4.c 134, q3.c 134, o3.c 134, q2.c 134, o2.c 134, q1.c 134, o1.c 134, o0.c 134, e5]
    have oM : mO3 [121, 130, 131, 132, 133, 134] (20 :: fG) [120] μ μ6 := (oN.mono (by decide) (by decide) (by decide)).trans (o6.mono (by decide) (by decide) (by decide))
    have f19 : μ6.1 112 19 = nI v := by rw [oM.f 19]; exact h19
    have cv6 : (μ6.1 112 19).toNatClampNeg = v := by rw [f19]; exact nI_clamp (by omega)
    have iv6 : vp_in (μ6.1 112 19) 2 := by rw [f19]; exact vp_in_nI hv2 (by decide)
    have d129 : μ6.1 129 v = nI (T 0 2) := by rw [oM.c 129]; exact dI'.2.2.1
    refine b_X12_tellGhost_94 hG P6 (fun z => absurd (okM_13 k6).1 z) (fun _ => iv6) (fun _ => ?_)
    rw [cv6, d129, nI_inc]
    have o7 : mO3 [129] [] [] μ6 (wI μ6 129 v (nI (T 0 2 + 1))) := mO3_wC (by decide) (by decide)
    refine ⟨⟨okM_off k6 o7, ⟨hv2, by rw [o7.f 19]; exact f19, by rw [o7.f 12, oM.f 12]; exact h12'⟩, ?_, ?_, ?_, nmM_off N6 o7, ?_⟩, kk6.trans (rmK_wC (by decide) (in1 129 (by decide)))⟩
    · refine ⟨?_, ?_, wI_at, ?_, ?_, ?_, ?_, ?_⟩
      · rw [o7.c 122, oM.c 122]; exact dI'.1
      · rw [o7.c 123, oM.c 123]; exact dI'.2.1
      · rw [o7.c 128, oM.c 128]; exact dI'.2.2.2.1
      · rw [o7.c 135, oM.c 135]; exact dI'.2.2.2.2.1
      · rw [o7.c 136, oM.c 136]; exact dI'.2.2.2.2.2.1
      · rw [o7.c 137, oM.c 137]; exact dI'.2.2.2.2.2.2.1
      · rw [o7.c 138, oM.c 138]; exact dI'.2.2.2.2.2.2.2
    · intro k hk
      rw [o7.c 124, o7.c 125, o7.c 126, o7.c 127, oM.c 124, oM.c 125, oM.c 126, oM.c 127]
      exact dR' k hk
    · intro k hk
      have hk : k < T 0 2 + 1 := hk
      rw [o7.c 130, o7.c 131, o7.c 132, o7.c 133, o7.c 134, c0, c1, c2, c3, c4]
      by_cases ek : k = T 0 2
      · subst ek
        rw [upd_at, upd_at, upd_at, upd_at, upd_at]
        have z1 : ghT T A B H f g 5 (T 0 2) = A := by simp [ghT, sT1]
        have z2 : ghT T A B H f g 6 (T 0 2) = B := by simp [ghT, sT1]
        have z3 : ghT T A B H f g 7 (T 0 2) = H := by simp [ghT, sT1]
        have z4 : ghT T A B H f g 8 (T 0 2) = f := by simp [ghT, sT1]
        have z5 : ghT T A B H f g 9 (T 0 2) = g := by simp [ghT, sT1]
        show nI A = nI (ghT T A B H f g 5 (T 0 2)) ∧ nI B = nI (ghT T A B H f g 6 (T 0 2)) ∧ nI H = nI (ghT T A B H f g 7 (T 0 2)) ∧ nI f = nI (ghT T A B H f g 8 (T 0 2)) ∧ nI g = nI (ghT T A B H f g 9 (T 0 2))
        rw [z1, z2, z3, z4, z5]; exact ⟨rfl, rfl, rfl, rfl, rfl⟩
      · have z : ∀ x, 1 ≤ x → ghT T A B H f g x k = T x k := fun x hx => by
          have hx0 : x ≠ 0 := by omega
          simp [ghT, sT1, ek, hx0]
        rw [upd_ne (by omega), upd_ne (by omega), upd_ne (by omega), upd_ne (by omega), upd_ne (by omega)]
        show _ = nI (ghT T A B H f g 5 k) ∧ _ = nI (ghT T A B H f g 6 k) ∧ _ = nI (ghT T A B H f g 7 k) ∧ _ = nI (ghT T A B H f g 8 k) ∧ _ = nI (ghT T A B H f g 9 k)
        rw [z 5 (by decide), z 6 (by decide), z 7 (by decide), z 8 (by decide), z 9 (by decide)]
        exact dG' k (by omega)
    · exact dB_off (dB_off hB oM (by intro c hc; simp at hc; omega) tle) o7 (by intro c hc; simp at hc; omega) (Nat.le_refl _)
/-- a LAW whose first word was one TOKEN too many -/
theorem d_X12_tellLaw (hG : gMM G) {μ : jM} (hP : gNN μ) {e : pF} (h : mB e μ) {b c : Nat} (hv2 : v < 2) (hb : 130 * v ≤ b ∧ b < 130 * v + 109) (hc : 420 * v ≤ c) (h42 : μ.1 112 42 = nI b) (z : Int32) : jC0 l mX12_tellLaw 5 G [.ref 112, .int z] μ (pV fun μ' => mB e μ' ∧ rmK v μ μ') := by
  refine jC0.of' (ls := [.ref 112, .int z, .null, .null]) rfl rfl rfl (fun _ _ => Nat.le_of_ble_eq_true rfl) ?_
  refine b_X12_tellLaw_0 hG hP (d_X12_must hG hP h _) (fun μ1 h1 => ?_)
  obtain ⟨h1, o1⟩ := h1
  have P1 := o1.gNN hP
  have f42 : μ1.1 112 42 = nI b := by rw [o1.f 42]; exact h42
  refine b_X12_tellLaw_5 hG P1 ?_
  rw [f42]
  exact lb12 (b := b) (c := c) hG P1 h1 f42 (by omega) (Nat.le_refl _) hv2 (fun μ2 h2 => ⟨h2.1, (rmK_g (fG_F o1)).trans (rmK_l2 (q := 0) (lO2_o h2.2) hb.1 hc (by decide))⟩)
end ParG
