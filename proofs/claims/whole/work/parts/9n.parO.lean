/-! THE REFERENCE reads a telling -/
theorem dM_1 {v t t' i x : Nat} {T : sT} {Lw : Nat → sLaw} {N : nL} {μ μ' : jM} (hi : 4 ≤ i ∧ i ≤ 7) (h : dM v t T Lw N μ) (ho : mO3 [131 + i] fG [] μ μ') (ht : t ≤ t') (hx : μ'.1 (131 + i) v = nI x) : dM v t' (sT1 T 0 i x) Lw N μ' := by
  obtain ⟨a1, a2, a3, a4, a5, a6⟩ := h
  have hc : ∀ c, c ≠ 112 → c ≠ 131 + i → μ'.1 c = μ.1 c := fun c a b => ho.2.1 c a (by simp; omega)
  have q : ∀ j, j ≠ i → sT1 T 0 i x 0 j = T 0 j := fun j hj => by simp [sT1, hj]
  have q' : ∀ y z, y ≠ 0 → sT1 T 0 i x y z = T y z := fun y z hy => by simp [sT1, hy]
  have qi : sT1 T 0 i x 0 i = x := by simp [sT1]
  have cell : ∀ j, 4 ≤ j → j ≤ 7 → μ.1 (131 + j) v = nI (T 0 j) → μ'.1 (131 + j) v = nI (sT1 T 0 i x 0 j) := fun j h1 h2 h3 => by
    by_cases e : j = i
    · rw [e, qi]; exact hx
    · rw [q j e, hc (131 + j) (by omega) (by omega)]; exact h3
  refine ⟨by rw [ho.f 19, ho.f 12]; exact a1, ⟨?_, ?_, ?_, ?_, cell 4 (by decide) (by decide) a2.2.2.2.2.1, cell 5 (by decide) (by decide) a2.2.2.2.2.2.1, cell 6 (by decide) (by decide) a2.2.2.2.2.2.2.1, cell 7 (by decide) (by decide) a2.2.2.2.2.2.2.2⟩, ?_, ?_, ?_, dB_off a6 ho (by intro c hc'; simp at hc'; omega) ht⟩
  · rw [q 0 (by omega), hc 122 (by decide) (by omega)]; exact a2.1
  · rw [q 1 (by omega), hc 123 (by decide) (by omega)]; exact a2.2.1
  · rw [q 2 (by omega), hc 129 (by decide) (by omega)]; exact a2.2.2.1
  · rw [q 3 (by omega), hc 128 (by decide) (by omega)]; exact a2.2.2.2.1
  · intro k hk
    rw [q 1 (by omega)] at hk
    rw [q' 1 k (by decide), q' 2 k (by decide), q' 3 k (by decide), q' 4 k (by decide), hc 124 (by decide) (by omega), hc 125 (by decide) (by omega), hc 126 (by decide) (by omega), hc 127 (by decide) (by omega)]
    exact a3 k hk
  · intro k hk
    rw [q 2 (by omega)] at hk
    rw [q' 5 k (by decide), q' 6 k (by decide), q' 7 k (by decide), q' 8 k (by decide), q' 9 k (by decide), hc 130 (by decide) (by omega), hc 131 (by decide) (by omega), hc 132 (by decide) (by omega), hc 133 (by decide) (by omega), hc 134 (by decide) (by omega)]
    exact a4 k hk
  · obtain ⟨n1, n2, n3⟩ := a5
    refine ⟨n1, by rw [ho.f 20]; exact n2, ?_⟩
    rw [ho.g 120, hc 121 (by decide) (by omega)]; exact n3
theorem lX_o2 {v b c i f lo : Nat} {L : sLaw} {μ μ' : jM} (h : lX μ f L lo c) (ho : lO2 v b c i μ μ') (hb : f + L.length ≤ b) : lX μ' f L lo c := fun j br hj => by
  have hl := (List.getElem?_eq_some_iff.mp hj).1
  exact brX_c (fun cc a b => ho.2.2.1 cc a b _ (by omega)) (fun i hi _ => ho.2.1 i (by omega)) (h j br hj)
section ParO
variable {l : Launch} {G : jG} {Y : List Int32} {w : Nat × Nat} {v : Nat} {T : sT} {Lw : Nat → sLaw} {N : nL}
/-- a telling, from here on -/
abbrev oJ (l : Launch) (G : jG) (Y : List Int32) (v t : Nat) (w : Nat × Nat) (T : sT) (Lw : Nat → sLaw) (N : nL) (μ : jM) (pc : Nat) (ls st : List Value) (μ1 : jM) : Prop := J l mX12_tellOne (jZ0 6 G (pV fun μ' => pR (tll Y t w T Lw N) (dQ Y v) mB μ' ∧ rmK v μ μ')) G 0 0 pc ls st μ1
theorem o_place (hG : gMM G) {μ μ1 : jM} (hP : gNN μ) (hY : Y.length ≤ 2000) {t : Nat} (hd : dM v t T Lw N μ) (hp : pOK Y t w T Lw N) (hk : kd Y t = 20) (h1 : uM Y (if T 0 0 = 8 then .error (2, pl Y t) else tke Y t) (fun t => t) (fun _ => w) μ1) (o1 : mO3 [] fF [] μ μ1) : oJ l G Y v t w T Lw N μ 83 [.ref 112, .null] [] μ1 := by
  have P1 := o1.gNN hP
  have htl : tll Y t w T Lw N = tlP Y t w T Lw N := by unfold tll; rw [if_pos hk]
  have hf : tlP Y t w T Lw N = bd (if T 0 0 = 8 then .error (2, pl Y t) else tke Y t) fun t1 => bd (nwN Y t1 w N) fun r => bd (xpc Y 4 r.1) fun t3 => .ok (t3, r.2, sT1 T 0 0 (T 0 0 + 1), Lw, N ++ [(nm Y t1, T 0 0)]) := by
    unfold tlP; split <;> rfl
  unfold oJ
  rw [htl, hf]
  obtain ⟨⟨hv2, h19, h12'⟩, dI', dR', dG', hN, hB⟩ := id hd
  obtain ⟨-, -, ⟨t00, t01, t02, t03⟩, ⟨n1, n2, n3, n4⟩, -, -⟩ := hp
  have nlen := pl_gh_len (N := N)
  by_cases h8 : T 0 0 = 8
  · rw [if_pos h8] at h1 ⊢
    have m1 : mB (2, pl Y t) μ1 := h1
    exact b_X12_tellOne_83 (ψ0 := fun _ _ => True) hG P1 (fun z => absurd z (mB_13 m1).2.1) (fun z => absurd z (mB_13 m1).2.1) (fun _ => ⟨m1, rmK_g (fG_F o1)⟩)
  rw [if_neg h8] at h1 ⊢
  cases et : tke Y t with
  | error f =>
    have m1 : mB f μ1 := pR_er h1 et
    exact b_X12_tellOne_83 (ψ0 := fun _ _ => True) hG P1 (fun z => absurd z (mB_13 m1).2.1) (fun z => absurd z (mB_13 m1).2.1) (fun _ => ⟨m1, rmK_g (fG_F o1)⟩)
  | ok t1 =>
    have k1 : okM Y t1 w μ1 := pR_ok h1 et
    obtain ⟨et1, -⟩ := tke_ok et
    rw [bd_ok]
    have N1 := nmM_off hN o1
    have h0 : uM Y (.ok t1 : Except pF Nat) id (fun _ => w) μ1 := k1
    refine b_X12_tellOne_83 hG P1 (fun _ => u_named hG P1 hY h0 N1) (fun _ => ?_) (fun z => absurd (okM_13 k1).2.1 z)
    rintro v2 μ2 ⟨g2, h2, o2⟩
    have P2 := o2.gNN P1
    have N2 := nmM_off N1 o2
    have ev2 : v2 = nI t1 := g2 t1 rfl
    have oA : mO3 [] fG [] μ μ2 := (fG_F o1).trans o2
    have f19 : μ2.1 112 19 = nI v := by rw [oA.f 19]; exact h19
    have cv2 : (μ2.1 112 19).toNatClampNeg = v := by rw [f19]; exact nI_clamp (by omega)
    have d122 : μ2.1 122 v = nI (T 0 0) := by rw [oA.c 122]; exact dI'.1
    have hzz : ∀ p, (px (.ok t1 : Except pF Nat) fun a => nwN Y (id a) w N) = .ok p → (v2 = nI p.1 ∧ nI (T 0 0) = nI (T 0 0)) ∧ (p.1 < p.2.1 ∧ kd Y p.1 = 1) ∧ (T 0 0 = NON ∨ (T 0 0 = (plN N).length ∧ T 0 0 < 8)) ∧ N.length < 15 := by
      intro p hp
      obtain ⟨x0, y1⟩ := px_inv hp
      have z0 : t1 = p.1 := Except.ok.inj x0
      have z1 := nwN_t y1
      exact ⟨⟨by rw [ev2, z0], rfl⟩, ⟨by have := z1.1; simp only [id] at this; omega, z1.2⟩, Or.inr ⟨n2.symm, by omega⟩, by omega⟩
    refine b_X12_tellOne_96 hG P2 (by rw [f19]; exact vp_in_nI hv2 (by decide)) (by rw [cv2, d122]; exact u_ends (tok := fun p => p.1) (at' := fun _ => T 0 0) hG P2 h2 N2 hzz) ?_
    rintro μ3 ⟨h3, o3⟩
    have P3 := o3.gNN P2
    have k3' : rmK v μ2 μ3 := ⟨o3.1, fun c hc => o3.2.2.2 c (by simp; omega), fun ff hf => o3.2.2.1 ff (fun z => hf (by unfold rF; simp at z ⊢; omega)), fun c i hc hn => by
      by_cases ec : c = 121
      · exact absurd (Or.inl (Or.inl ec)) hn
      · rw [o3.2.1 c hc (by simp; omega)]⟩
    have kk : rmK v μ μ3 := (rmK_g oA).trans k3'
    generalize hx3 : (px _ _ : Except pF _) = x3 at h3
    have hfin : (bd (nwN Y t1 w N) fun r => bd (xpc Y 4 r.1) fun t3 => (.ok (t3, r.2, sT1 T 0 0 (T 0 0 + 1), Lw, N ++ [(nm Y t1, T 0 0)]) : Except pF pS)) = bd x3 fun p => .ok (p.2, p.1.2.2, sT1 T 0 0 (T 0 0 + 1), Lw, N ++ [(nm Y t1, T 0 0)]) := by
      rw [← hx3]; simp only [px_bd, bd_ok]; rfl
    rw [hfin]
    cases x3 with
    | error f =>
      have m3 : mB f μ3 := h3
      exact b_X12_tellOne_108 hG P3 (fun _ => b_X12_tellOne_343 hG P3 ⟨m3, kk⟩) (fun z => absurd z (mB_13 m3).1) (fun z => absurd z (mB_13 m3).1)
    | ok p =>
      obtain ⟨k3, N3⟩ := pR_ok h3 rfl
      obtain ⟨x2, y3⟩ := px_inv hx3
      obtain ⟨x1, y2⟩ := px_inv x2
      have z1 : t1 = p.1.1 := Except.ok.inj x1
      rw [← z1] at N3
      have tle : t ≤ p.2 := by
        have z2 := (nwN_t y2).1
        have z3 := (xpc_ok y3).2.1
        simp only [id] at z2
        omega
      have oM : mO3 [121] (20 :: fG) [120] μ μ3 := (oA.mono (by decide) (by decide) (by decide)).trans o3
      have f19' : μ3.1 112 19 = nI v := by rw [oM.f 19]; exact h19
      have cv3 : (μ3.1 112 19).toNatClampNeg = v := by rw [f19']; exact nI_clamp (by omega)
      have d122' : μ3.1 122 v = nI (T 0 0) := by rw [oM.c 122]; exact dI'.1
      refine b_X12_tellOne_108 hG P3 (fun z => absurd (okM_13 k3).1 z) (fun _ => by rw [f19']; exact vp_in_nI hv2 (by decide)) (fun _ => ?_)
      rw [cv3, d122', nI_inc]
      have o7 : mO3 [122] [] [] μ3 (wI μ3 122 v (nI (T 0 0 + 1))) := mO3_wC (by decide) (by decide)
      refine b_X12_tellOne_343 hG (o7.gNN P3) ⟨⟨okM_off k3 o7, ⟨hv2, by rw [o7.f 19]; exact f19', by rw [o7.f 12, oM.f 12]; exact h12'⟩, ⟨wI_at, ?_, ?_, ?_, ?_, ?_, ?_, ?_⟩, ?_, ?_, nmM_off N3 o7, ?_⟩, kk.trans (rmK_wC (by decide) (in1 122 (by decide)))⟩
      · rw [o7.c 123, oM.c 123]; exact dI'.2.1
      · rw [o7.c 129, oM.c 129]; exact dI'.2.2.1
      · rw [o7.c 128, oM.c 128]; exact dI'.2.2.2.1
      · rw [o7.c 135, oM.c 135]; exact dI'.2.2.2.2.1
      · rw [o7.c 136, oM.c 136]; exact dI'.2.2.2.2.2.1
      · rw [o7.c 137, oM.c 137]; exact dI'.2.2.2.2.2.2.1
      · rw [o7.c 138, oM.c 138]; exact dI'.2.2.2.2.2.2.2
      · intro k hk
        rw [o7.c 124, o7.c 125, o7.c 126, o7.c 127, oM.c 124, oM.c 125, oM.c 126, oM.c 127]
        exact dR' k hk
      · intro k hk
        rw [o7.c 130, o7.c 131, o7.c 132, o7.c 133, o7.c 134, oM.c 130, oM.c 131, oM.c 132, oM.c 133, oM.c 134]
        exact dG' k hk
      · exact dB_off (dB_off hB oM (by intro c hc; simp at hc; omega) tle) o7 (by intro c hc; simp at hc; omega) (Nat.le_refl _)
theorem o_road (hG : gMM G) {μ μ1 : jM} (hP : gNN μ) (hY : Y.length ≤ 2000) {t : Nat} (hd : dM v t T Lw N μ) (hp : pOK Y t w T Lw N) (hk : kd Y t = 21) (h1 : uM Y (if T 0 1 = 12 then .error (2, pl Y t) else tke Y t) (fun t => t) (fun _ => w) μ1) (o1 : mO3 [] fF [] μ μ1) : oJ l G Y v t w T Lw N μ 146 [.ref 112, .null] [] μ1 := by
  have P1 := o1.gNN hP
  have htl : tll Y t w T Lw N = tlR Y t w T Lw N := by unfold tll; rw [if_neg (by omega), if_pos hk]
  have hf : tlR Y t w T Lw N = bd (if T 0 1 = 12 then .error (2, pl Y t) else tke Y t) fun t1 => tlR' Y t1 w T Lw N := by
    unfold tlR; split <;> rfl
  unfold oJ
  rw [htl, hf]
  obtain ⟨-, -, ⟨t00, t01, t02, t03⟩, -, -, -⟩ := hp
  have bad : ∀ f, mB f μ1 → J l mX12_tellOne (jZ0 6 G (pV fun μ' => pR (bd (.error f) fun t1 => tlR' Y t1 w T Lw N) (dQ Y v) mB μ' ∧ rmK v μ μ')) G 0 0 146 [.ref 112, .null] [] μ1 := fun f m1 =>
    b_X12_tellOne_146 (ψ1 := fun _ => True) hG P1 (fun _ => b_X12_tellOne_343 hG P1 ⟨m1, rmK_g (fG_F o1)⟩) (fun z => absurd z (mB_13 m1).1) (fun z => absurd z (mB_13 m1).1)
  by_cases h8 : T 0 1 = 12
  · rw [if_pos h8] at h1 ⊢
    exact bad _ h1
  rw [if_neg h8] at h1 ⊢
  cases et : tke Y t with
  | error f => exact bad f (pR_er h1 et)
  | ok t1 =>
    have k1 : okM Y t1 w μ1 := pR_ok h1 et
    obtain ⟨et1, -⟩ := tke_ok et
    rw [bd_ok]
    refine b_X12_tellOne_146 hG P1 (fun z => absurd (okM_13 k1).1 z) (fun _ => c_X12_tellRoad hG P1 hY k1 (dM_3 hd o1 (by omega)) (by omega) t03) (fun _ μ2 h2 => ?_)
    have P2 := h2.2.gNN P1
    exact b_X12_tellOne_157 hG P2 (b_X12_tellOne_343 hG P2 ⟨h2.1, (rmK_g (fG_F o1)).trans h2.2⟩)
theorem o_ghost (hG : gMM G) {μ μ1 : jM} (hP : gNN μ) (hY : Y.length ≤ 2000) {t : Nat} (hd : dM v t T Lw N μ) (hp : pOK Y t w T Lw N) (hk : kd Y t = 24) (h1 : uM Y (if T 0 2 = 7 then .error (2, pl Y t) else tke Y t) (fun t => t) (fun _ => w) μ1) (o1 : mO3 [] fF [] μ μ1) : oJ l G Y v t w T Lw N μ 175 [.ref 112, .null] [] μ1 := by
  have P1 := o1.gNN hP
  have htl : tll Y t w T Lw N = tlG Y t w T Lw N := by unfold tll; rw [if_neg (by omega), if_neg (by omega), if_pos hk]
  have hf : tlG Y t w T Lw N = bd (if T 0 2 = 7 then .error (2, pl Y t) else tke Y t) fun t1 => tlG' Y t1 w T Lw N := by
    unfold tlG; split <;> rfl
  unfold oJ
  rw [htl, hf]
  obtain ⟨-, -, ⟨t00, t01, t02, t03⟩, ⟨n1, n2, n3, n4⟩, -, -⟩ := hp
  have nlen := pl_gh_len (N := N)
  have bad : ∀ f, mB f μ1 → J l mX12_tellOne (jZ0 6 G (pV fun μ' => pR (bd (.error f) fun t1 => tlG' Y t1 w T Lw N) (dQ Y v) mB μ' ∧ rmK v μ μ')) G 0 0 175 [.ref 112, .null] [] μ1 := fun f m1 =>
    b_X12_tellOne_175 (ψ1 := fun _ => True) hG P1 (fun _ => b_X12_tellOne_343 hG P1 ⟨m1, rmK_g (fG_F o1)⟩) (fun z => absurd z (mB_13 m1).1) (fun z => absurd z (mB_13 m1).1)
  by_cases h8 : T 0 2 = 7
  · rw [if_pos h8] at h1 ⊢
    exact bad _ h1
  rw [if_neg h8] at h1 ⊢
  cases et : tke Y t with
  | error f => exact bad f (pR_er h1 et)
  | ok t1 =>
    have k1 : okM Y t1 w μ1 := pR_ok h1 et
    obtain ⟨et1, -⟩ := tke_ok et
    rw [bd_ok]
    refine b_X12_tellOne_175 hG P1 (fun z => absurd (okM_13 k1).1 z) (fun _ => c_X12_tellGhost hG P1 hY k1 (dM_3 hd o1 (by omega)) (by omega) (by omega)) (fun _ μ2 h2 => ?_)
    have P2 := h2.2.gNN P1
    exact b_X12_tellOne_186 hG P2 (b_X12_tellOne_343 hG P2 ⟨h2.1, (rmK_g (fG_F o1)).trans h2.2⟩)
theorem o_fog (hG : gMM G) {μ μ1 : jM} (hP : gNN μ) (hY : Y.length ≤ 2000) {t : Nat} (hd : dM v t T Lw N μ) (hk : kd Y t = 28) (h1 : uM Y (px (.ok t : Except pF Nat) fun a => tke Y a) (fun p => p.2) (fun _ => w) μ1) (o1 : mO3 [] fF [] μ μ1) : oJ l G Y v t w T Lw N μ 193 [.ref 112, .null] [] μ1 := by
  have P1 := o1.gNN hP
  have htl : tll Y t w T Lw N = tlF Y t w T Lw N := by unfold tll; rw [if_neg (by omega), if_neg (by omega), if_neg (by omega), if_pos hk]
  unfold oJ
  rw [htl]
  obtain ⟨⟨hv2, h19, -⟩, -⟩ := id hd
  refine b_X12_tellOne_193 hG P1 (u_bounded (lo := 0) (hi := 100) hG P1 hY h1 rfl rfl (by decide) (by decide)) ?_
  rintro v2 μ2 ⟨g2, h2, o2⟩
  have P2 := o2.gNN P1
  have f19 : μ1.1 112 19 = nI v := by rw [o1.f 19]; exact h19
  rw [f19]
  have q2 : mO3 [135] [] [] μ2 (wI μ2 135 v v2) := mO3_wC (by decide) (by decide)
  have Q2 := q2.gNN P2
  refine b_X12_tellOne_208 hG P2 (vp_in_nI hv2 (by decide)) (by rw [nI_clamp (by omega)]; exact u_must (k := 4) hG Q2 (uM_off h2 q2) rfl (by decide)) ?_
  rintro μ3 ⟨h3, o3⟩
  have P3 := o3.gNN Q2
  have kk : rmK v μ μ3 := (((rmK_g (fG_F o1)).trans (rmK_g o2)).trans (rmK_wC (by decide) (in1 135 (by decide)))).trans (rmK_g (fG_F o3))
  refine b_X12_tellOne_214 hG P3 (b_X12_tellOne_343 hG P3 ⟨?_, kk⟩)
  generalize hx3 : (px _ _ : Except pF _) = x3 at h3
  have hfin : tlF Y t w T Lw N = bd x3 fun p => .ok (p.2, p.1.2.2.1, sT1 T 0 4 p.1.2.2.2, Lw, N) := by
    rw [← hx3]; unfold tlF; simp only [px_bd, bd_ok]
  rw [hfin]
  cases x3 with
  | error f => exact h3
  | ok p =>
    have k3 := pR_ok h3 rfl
    obtain ⟨x2, y3⟩ := px_inv hx3
    obtain ⟨x1, y2⟩ := px_inv x2
    obtain ⟨x0, y1⟩ := px_inv x1
    have e2 := g2 _ x2
    have tle : t ≤ p.2 := by
      have z0 : t = p.1.1.1 := Except.ok.inj x0
      have z1 := (tke_ok y1).1
      have z2 := nmb_t y2
      have z3 := (xpc_ok y3).2.1
      omega
    have oM : mO3 [131 + 4] fG [] μ μ3 := ((((fG_F o1).mono (by decide) (by decide) (by decide)).trans (o2.mono (by decide) (by decide) (by decide))).trans (q2.mono (by decide) (by decide) (by decide))).trans (o3.mono (by decide) (by decide) (by decide))
    exact ⟨k3, dM_1 (i := 4) (by decide) hd oM tle (by show μ3.1 135 v = _; rw [o3.c 135, wI_at]; exact e2)⟩
theorem o_seed (hG : gMM G) {μ μ1 : jM} (hP : gNN μ) (hY : Y.length ≤ 2000) {t : Nat} (hd : dM v t T Lw N μ) (hk : kd Y t = 30) (h1 : uM Y (px (.ok t : Except pF Nat) fun a => tke Y a) (fun p => p.2) (fun _ => w) μ1) (o1 : mO3 [] fF [] μ μ1) : oJ l G Y v t w T Lw N μ 265 [.ref 112, .null] [] μ1 := by
  have P1 := o1.gNN hP
  have htl : tll Y t w T Lw N = tlS Y t w T Lw N := by unfold tll; rw [if_neg (by omega), if_neg (by omega), if_neg (by omega), if_neg (by omega), if_neg (by omega), if_pos hk]
  unfold oJ
  rw [htl]
  obtain ⟨⟨hv2, h19, -⟩, -⟩ := id hd
  refine b_X12_tellOne_265 hG P1 (u_bounded (lo := 0) (hi := 9999) hG P1 hY h1 rfl rfl (by decide) (by decide)) ?_
  rintro v2 μ2 ⟨g2, h2, o2⟩
  have P2 := o2.gNN P1
  have f19 : μ1.1 112 19 = nI v := by rw [o1.f 19]; exact h19
  rw [f19]
  have q2 : mO3 [138] [] [] μ2 (wI μ2 138 v v2) := mO3_wC (by decide) (by decide)
  have Q2 := q2.gNN P2
  refine b_X12_tellOne_281 hG P2 (vp_in_nI hv2 (by decide)) (by rw [nI_clamp (by omega)]; exact u_must (k := 4) hG Q2 (uM_off h2 q2) rfl (by decide)) ?_
  rintro μ3 ⟨h3, o3⟩
  have P3 := o3.gNN Q2
  have kk : rmK v μ μ3 := (((rmK_g (fG_F o1)).trans (rmK_g o2)).trans (rmK_wC (by decide) (in1 138 (by decide)))).trans (rmK_g (fG_F o3))
  refine b_X12_tellOne_287 hG P3 (b_X12_tellOne_343 hG P3 ⟨?_, kk⟩)
  generalize hx3 : (px _ _ : Except pF _) = x3 at h3
  have hfin : tlS Y t w T Lw N = bd x3 fun p => .ok (p.2, p.1.2.2.1, sT1 T 0 7 p.1.2.2.2, Lw, N) := by
    rw [← hx3]; unfold tlS; simp only [px_bd, bd_ok]
  rw [hfin]
  cases x3 with
  | error f => exact h3
  | ok p =>
    have k3 := pR_ok h3 rfl
    obtain ⟨x2, y3⟩ := px_inv hx3
    obtain ⟨x1, y2⟩ := px_inv x2
    obtain ⟨x0, y1⟩ := px_inv x1
    have e2 := g2 _ x2
    have tle : t ≤ p.2 := by
      have z0 : t = p.1.1.1 := Except.ok.inj x0
      have z1 := (tke_ok y1).1
      have z2 := nmb_t y2
      have z3 := (xpc_ok y3).2.1
      omega
    have oM : mO3 [131 + 7] fG [] μ μ3 := ((((fG_F o1).mono (by decide) (by decide) (by decide)).trans (o2.mono (by decide) (by decide) (by decide))).trans (q2.mono (by decide) (by decide) (by decide))).trans (o3.mono (by decide) (by decide) (by decide))
    exact ⟨k3, dM_1 (i := 7) (by decide) hd oM tle (by show μ3.1 138 v = _; rw [o3.c 138, wI_at]; exact e2)⟩
theorem o_lamp (hG : gMM G) {μ μ1 : jM} (hP : gNN μ) (hY : Y.length ≤ 2000) {t : Nat} (hd : dM v t T Lw N μ) (hk : kd Y t = 29) (h1 : uM Y (px (.ok t : Except pF Nat) fun a => tke Y a) (fun p => p.2) (fun _ => w) μ1) (o1 : mO3 [] fF [] μ μ1) : oJ l G Y v t w T Lw N μ 221 [.ref 112, .null] [] μ1 := by
  have P1 := o1.gNN hP
  have htl : tll Y t w T Lw N = tlM Y t w T Lw N := by unfold tll; rw [if_neg (by omega), if_neg (by omega), if_neg (by omega), if_neg (by omega), if_pos hk]
  unfold oJ
  rw [htl]
  obtain ⟨⟨hv2, h19, -⟩, -⟩ := id hd
  refine b_X12_tellOne_221 hG P1 (u_bounded (lo := 0) (hi := 100) hG P1 hY h1 rfl rfl (by decide) (by decide)) ?_
  rintro v2 μ2 ⟨g2, h2, o2⟩
  have P2 := o2.gNN P1
  have f19 : μ1.1 112 19 = nI v := by rw [o1.f 19]; exact h19
  rw [f19]
  have q2 : mO3 [136] [] [] μ2 (wI μ2 136 v v2) := mO3_wC (by decide) (by decide)
  have Q2 := q2.gNN P2
  have f19b : (wI μ2 136 v v2).1 112 19 = nI v := by rw [q2.f 19, o2.f 19]; exact f19
  have f19c : μ2.1 112 19 = nI v := by rw [o2.f 19]; exact f19
  refine b_X12_tellOne_236 hG P2 (vp_in_nI hv2 (by decide)) (by rw [nI_clamp (by omega)]; exact u_bounded (lo := 0) (hi := 100) hG Q2 hY (uM_off h2 q2) rfl rfl (by decide) (by decide)) ?_
  rintro v3 μ3 ⟨g3, h3, o3⟩
  have P3 := o3.gNN Q2
  rw [f19c]
  have q3 : mO3 [137] [] [] μ3 (wI μ3 137 v v3) := mO3_wC (by decide) (by decide)
  have Q3 := q3.gNN P3
  refine b_X12_tellOne_252 hG P3 (vp_in_nI hv2 (by decide)) (by rw [nI_clamp (by omega)]; exact u_must (k := 4) hG Q3 (uM_off h3 q3) rfl (by decide)) ?_
  rintro μ4 ⟨h4, o4⟩
  have P4 := o4.gNN Q3
  have kk : rmK v μ μ4 := (((((rmK_g (fG_F o1)).trans (rmK_g o2)).trans (rmK_wC (by decide) (in1 136 (by decide)))).trans (rmK_g o3)).trans (rmK_wC (by decide) (in1 137 (by decide)))).trans (rmK_g (fG_F o4))
  refine b_X12_tellOne_258 hG P4 (b_X12_tellOne_343 hG P4 ⟨?_, kk⟩)
  generalize hx4 : (px _ _ : Except pF _) = x4 at h4
  have hfin : tlM Y t w T Lw N = bd x4 fun p => .ok (p.2, p.1.2.2.1, sT1 (sT1 T 0 5 p.1.1.2.2.2) 0 6 p.1.2.2.2, Lw, N) := by
    rw [← hx4]; unfold tlM; simp only [px_bd, bd_ok]
  rw [hfin]
  cases x4 with
  | error f => exact h4
  | ok p =>
    have k4 := pR_ok h4 rfl
    obtain ⟨x3, y4⟩ := px_inv hx4
    obtain ⟨x2, y3⟩ := px_inv x3
    obtain ⟨x1, y2⟩ := px_inv x2
    obtain ⟨x0, y1⟩ := px_inv x1
    have e2 := g2 _ x2
    have e3 := g3 _ x3
    have z0 : t = p.1.1.1.1 := Except.ok.inj x0
    have z1 := (tke_ok y1).1
    have z2 := nmb_t y2
    have z3 := nmb_t y3
    have z4 := (xpc_ok y4).2.1
    have oM : mO3 [131 + 5] fG [] μ (wI μ2 136 v v2) := (((fG_F o1).mono (by decide) (by decide) (by decide)).trans (o2.mono (by decide) (by decide) (by decide))).trans (q2.mono (by decide) (by decide) (by decide))
    have d2 := dM_1 (i := 5) (t' := t) (by decide) hd oM (Nat.le_refl _) (by show (wI μ2 136 v v2).1 136 v = _; rw [wI_at]; exact e2)
    have oM2 : mO3 [131 + 6] fG [] (wI μ2 136 v v2) μ4 := ((o3.mono (by decide) (by decide) (by decide)).trans (q3.mono (by decide) (by decide) (by decide))).trans (o4.mono (by decide) (by decide) (by decide))
    exact ⟨k4, dM_1 (i := 6) (t' := p.2) (by decide) d2 oM2 (by omega) (by show μ4.1 137 v = _; rw [o4.c 137, wI_at]; exact e3)⟩
theorem o_law (hG : gMM G) {μ : jM} (hP : gNN μ) {t : Nat} (h : okM Y t w μ) (hd : dM v t T Lw N μ) (hk : 25 ≤ kd Y t ∧ kd Y t ≤ 27) {z : Int32} (hz : z = nI (kd Y t - 25)) : oJ l G Y v t w T Lw N μ 326 [.ref 112, .int z] [] μ := by
  have htl : tll Y t w T Lw N = tlL Y (kd Y t - 25) t w T Lw N := by unfold tll; rw [if_neg (by omega), if_neg (by omega), if_neg (by omega), if_neg (by omega), if_neg (by omega), if_neg (by omega), if_pos hk]
  have hf : tlL Y (kd Y t - 25) t w T Lw N = bd (tke Y t) fun t1 => bd (bd (xpc Y 5 t1) fun t2 => lwT Y 5 t2 []) fun s => .ok (s.1, w, T, (fun x => if x = kd Y t - 25 then s.2 else Lw x), N) := by
    unfold tlL lwT; simp only [bd_bd, bd_ok]
  unfold oJ
  rw [htl, hf]
  obtain ⟨⟨hv2, h19, h12'⟩, dI', dR', dG', hN, hB⟩ := id hd
  obtain ⟨b, c, b1, b2, b3, b4, b5, b6, b7⟩ := hB
  have ht := h.2.1.1
  refine b_X12_tellOne_326 hG hP (fun _ => c_goesOn' hG hP h (by omega)) (fun _ μ1 h1 => ?_) (fun z => absurd (okM_13 h).2.1 z)
  obtain ⟨h1, o1⟩ := h1
  have P1 := o1.gNN hP
  have f42 : μ1.1 112 42 = nI b := by rw [o1.f 42]; exact b1
  cases et : tke Y t with
  | error f =>
    refine b_X12_tellOne_338 hG P1 (d_X12_tellLaw (v := v) (c := c) hG P1 (pR_er h1 et) hv2 (by omega) b5 f42 _) (fun μ2 h2 => ?_)
    exact b_X12_tellOne_343 hG (h2.2.gNN P1) ⟨h2.1, (rmK_g (fG_F o1)).trans h2.2⟩
  | ok t1 =>
    have k1 := pR_ok h1 et
    obtain ⟨et1, -⟩ := tke_ok et
    rw [bd_ok]
    refine b_X12_tellOne_338 hG P1 (c_X12_tellLaw (v := v) (b0 := b) (c := c) (k := kd Y t - 25) hG P1 k1 (by rw [o1.f 12]; exact h12') hv2 b2 (by rw [o1.f 19]; exact h19) f42 (by rw [o1.f 48]; exact b4) (by omega) (by omega) (by omega) hz) (fun μ2 h2 => ?_)
    obtain ⟨h2, o2⟩ := h2
    have P2 := o2.1.gNN P1
    refine b_X12_tellOne_343 hG P2 ⟨?_, (rmK_g (fG_F o1)).trans (rmK_l2 o2 b2 b5 (by omega))⟩
    cases ex : (bd (xpc Y 5 t1) fun t2 => lwT Y 5 t2 []) with
    | error f => exact pR_er h2 ex
    | ok s =>
      obtain ⟨⟨s1, s2, s3, c', s4, s5, s6, s7⟩, s8, s9⟩ := pR_ok h2 ex
      rw [bd_ok]
      obtain ⟨t2, e5, ex⟩ := bd_inv ex
      unfold lwT at ex
      obtain ⟨r, er, ex⟩ := bd_inv ex
      obtain ⟨t4, e4, ex⟩ := bd_inv ex
      cases ex
      obtain ⟨kk5, et2, -⟩ := xpc_ok e5
      obtain ⟨kk4, et4, -⟩ := xpc_ok e4
      have g2 : gd Y t2 := by rw [et2]; exact gd_s k1.2.1.2 (by omega) (by omega)
      have ht2 : t2 ≤ 400 := by have := (xpc_ok e5).2.2; have := k1.2.1.1; omega
      obtain ⟨-, -, -, q4, q5, q6⟩ := lwL_ok (b := 0) (c := 4 * b - 520 * v + 2) 5 t2 [] r ⟨ht2, g2⟩ lOK_nil (by show 0 + 0 + 1 ≤ _; omega) (by show 4 * b - 520 * v + 2 + 4 * 0 ≤ _; omega) er
      have q6 : 0 < r.2.length := q6
      have hcell : ∀ c, 121 ≤ c → c ≤ 138 → μ2.1 c = μ.1 c := fun c a b => by
        rw [o2.1.2.1 c (by omega) (by simp; omega), o1.2.1 c (by omega) (by simp)]
      refine ⟨s1, ⟨hv2, by rw [o2.1.f 19 (by decide), o1.f 19]; exact h19, s2⟩, ?_, ?_, ?_, ?_, b + r.2.length, c', s3, by omega, by show 4 * (b + r.2.length) ≤ 520 * v + t4; omega, s4, by omega, s6, fun q hq => ?_⟩
      · unfold dI at dI' ⊢
        rw [hcell 122 (by decide) (by decide), hcell 123 (by decide) (by decide), hcell 129 (by decide) (by decide), hcell 128 (by decide) (by decide), hcell 135 (by decide) (by decide), hcell 136 (by decide) (by decide), hcell 137 (by decide) (by decide), hcell 138 (by decide) (by decide)]; exact dI'
      · unfold dR at dR' ⊢
        rw [hcell 124 (by decide) (by decide), hcell 125 (by decide) (by decide), hcell 126 (by decide) (by decide), hcell 127 (by decide) (by decide)]; exact dR'
      · unfold dG at dG' ⊢
        rw [hcell 130 (by decide) (by decide), hcell 131 (by decide) (by decide), hcell 132 (by decide) (by decide), hcell 133 (by decide) (by decide), hcell 134 (by decide) (by decide)]; exact dG'
      · obtain ⟨n1, n2, n3⟩ := hN
        refine ⟨n1, by rw [o2.1.f 20 (by decide), o1.f 20]; exact n2, ?_⟩
        rw [o2.1.g 120, o1.g 120, hcell 121 (by decide) (by decide)]; exact n3
      · by_cases eq : q = kd Y t - 25
        · show dL μ2 v q (if q = kd Y t - 25 then r.2 else Lw q) _ _
          rw [if_pos eq]
          refine Or.inr ⟨b, by rw [eq]; exact s8, by rw [eq]; exact s9, b2, Nat.le_refl _, q6, fun j br hj => brX_m b5 (Nat.le_refl _) (s7 j br hj)⟩
        · show dL μ2 v q (if q = kd Y t - 25 then r.2 else Lw q) _ _
          rw [if_neg eq]
          obtain ⟨w1, w2⟩ := o2.2.2.2 (3 * v + q) (by omega)
          unfold dL
          rw [w1, w2, o1.c 139, o1.c 140]
          rcases b7 q hq with z | ⟨f, z1, z2, z3, z4, z5, z6⟩
          · exact Or.inl z
          · refine Or.inr ⟨f, z1, z2, z3, by omega, z5, fun j br hj => brX_m (Nat.le_refl _) s5 (lX_o2 (lX_off z6 o1 (by intro c hc; cases hc)) o2 z4 j br hj)⟩
theorem o_bad (hG : gMM G) {μ : jM} (hP : gNN μ) {t : Nat} (h : okM Y t w μ) (hk : tll Y t w T Lw N = .error (1, pl Y t)) (z : Int32) : oJ l G Y v t w T Lw N μ 321 [.ref 112, .int z] [] μ := by
  unfold oJ
  rw [hk]
  refine b_X12_tellOne_321 hG hP (c_X12_fail hG hP h (k := 1) rfl (Or.inl rfl)) (fun μ1 h1 => ?_)
  exact b_X12_tellOne_326 (ψ0 := fun _ => True) hG (h1.2.gNN hP) (fun z => absurd z (mB_13 h1.1).2.1) (fun z => absurd z (mB_13 h1.1).2.1) (fun _ => ⟨h1.1, rmK_g (fG_F h1.2)⟩)
theorem c_X12_tellOne (hG : gMM G) {μ : jM} (hP : gNN μ) (hY : Y.length ≤ 2000) {t : Nat} (h : okM Y t w μ) (hd : dM v t T Lw N μ) (hp : pOK Y t w T Lw N) : jC0 l mX12_tellOne 6 G [.ref 112] μ (pV fun μ' => pR (tll Y t w T Lw N) (dQ Y v) mB μ' ∧ rmK v μ μ') := by
  refine jC0.of' (ls := [.ref 112, .null]) rfl rfl rfl (fun _ _ => Nat.le_of_ble_eq_true rfl) ?_
  show oJ l G Y v t w T Lw N μ 0 [.ref 112, .null] [] μ
  obtain ⟨a1, a2, -, -, -⟩ := u_at h
  have hk43 := kd_in (Y := Y) (i := t)
  have ek : μ.1 115 (μ.1 112 11).toNatClampNeg = nI (kd Y t) := by rw [a1, nI_clamp (by omega)]; exact (h.1 t h.2.1.1 h.2.1.2).1
  obtain ⟨⟨hv2, h19, -⟩, dI', -⟩ := id hd
  have io : vp_in (μ.1 112 11) 403 := by rw [a1]; exact vp_in_nI (by omega) (by decide)
  have iv : vp_in (μ.1 112 19) 2 := by rw [h19]; exact vp_in_nI hv2 (by decide)
  have cv : (μ.1 112 19).toNatClampNeg = v := by rw [h19]; exact nI_clamp (by omega)
  obtain ⟨-, -, ⟨t00, t01, t02, t03⟩, -, -, -⟩ := id hp
  have ke : ∀ {c : Nat} {z : Int32}, z = nI c → c < 2 ^ 31 → (μ.1 115 (μ.1 112 11).toNatClampNeg = z ↔ kd Y t = c) := fun {c z} hz hc => by rw [ek, hz]; exact nI_eq (by omega) hc
  have hg0 : uM Y (.ok t : Except pF Nat) id (fun _ => w) μ := h
  by_cases hk : kd Y t = 20
  · have hX : μ.1 115 (μ.1 112 11).toNatClampNeg = 20 := (ke (c := 20) rfl (by decide)).mpr hk
    have hlt : (μ.1 115 (μ.1 112 11).toNatClampNeg) - 25 < 0 := by rw [hX]; decide
    have hle : μ.1 115 (μ.1 112 11).toNatClampNeg ≤ 27 := by rw [hX]; decide
    exact b_X12_tellOne_0 (ψ1 := fun _ => True) (ψ8 := fun _ => True) (ψ18 := fun _ => True) (ψ19 := fun _ => True) (ψ20 := fun _ => True) hG hP io (fun _ => iv) (fun _ => by rw [cv, dI'.1]; exact u_roomFor (has := T 0 0) (most := 8) hG hP h (by omega) rfl rfl (by omega) (by decide)) (fun _ => fun μ1 h1 => by exact o_place hG hP hY hd hp hk h1.1 h1.2) (fun z => absurd hX z) (fun z => absurd hX z) (fun z => absurd hX z) (fun z => absurd hX z) (fun z => absurd hX z) (fun z => absurd hX z) (fun z => absurd hX z) (fun z => absurd hX z) (fun z => absurd hX z) (fun z => absurd hX z) (fun z => absurd hX z) (fun z => absurd hX z) (fun z => absurd hX z) (fun z => absurd hX z) (fun z => absurd hX z) (fun z => absurd hX z) (fun z => absurd hX z) (fun z => absurd hX z) (fun z => absurd hX z) (fun z => absurd hX z) (fun z => absurd hX z) (fun z => absurd hX z) (fun z => absurd hX z) (fun z => absurd hX z) (fun z => absurd hX z) (fun z => absurd hX z) (fun z => absurd hX z) (fun z => absurd hX z) (fun z => absurd hX z) (fun z => absurd hX z)
  have n20 : ¬ μ.1 115 (μ.1 112 11).toNatClampNeg = 20 := fun z => hk ((ke (c := 20) rfl (by decide)).mp z)
  have m20 := hk
  clear hk
  by_cases hk : kd Y t = 21
  · have hX : μ.1 115 (μ.1 112 11).toNatClampNeg = 21 := (ke (c := 21) rfl (by decide)).mpr hk
    have hlt : (μ.1 115 (μ.1 112 11).toNatClampNeg) - 25 < 0 := by rw [hX]; decide
    have hle : μ.1 115 (μ.1 112 11).toNatClampNeg ≤ 27 := by rw [hX]; decide
    exact b_X12_tellOne_0 (ψ0 := fun _ => True) (ψ8 := fun _ => True) (ψ18 := fun _ => True) (ψ19 := fun _ => True) (ψ20 := fun _ => True) hG hP io (fun z => absurd (hX.symm.trans z) (by decide)) (fun z => absurd (hX.symm.trans z) (by decide)) (fun z => absurd (hX.symm.trans z) (by decide)) (fun _ _ => iv) (fun _ _ => by rw [cv, dI'.2.1]; exact u_roomFor (has := T 0 1) (most := 12) hG hP h (by omega) rfl rfl (by omega) (by decide)) (fun _ _ => fun μ1 h1 => by exact o_road hG hP hY hd hp hk h1.1 h1.2) (fun _ z => absurd hX z) (fun _ z => absurd hX z) (fun _ z => absurd hX z) (fun _ z => absurd hX z) (fun _ z => absurd hX z) (fun _ z => absurd hX z) (fun _ z => absurd hX z) (fun _ z => absurd hX z) (fun _ z => absurd hX z) (fun _ z => absurd hX z) (fun _ z => absurd hX z) (fun _ z => absurd hX z) (fun _ z => absurd hX z) (fun _ z => absurd hX z) (fun _ z => absurd hX z) (fun _ z => absurd hX z) (fun _ z => absurd hX z) (fun _ z => absurd hX z) (fun _ z => absurd hX z) (fun _ z => absurd hX z) (fun _ z => absurd hX z) (fun _ z => absurd hX z) (fun _ z => absurd hX z) (fun _ z => absurd hX z) (fun _ z => absurd hX z) (fun _ z => absurd hX z) (fun _ z => absurd hX z)
  have n21 : ¬ μ.1 115 (μ.1 112 11).toNatClampNeg = 21 := fun z => hk ((ke (c := 21) rfl (by decide)).mp z)
  have m21 := hk
  clear hk
  by_cases hk : kd Y t = 22
  · have hX : μ.1 115 (μ.1 112 11).toNatClampNeg = 22 := (ke (c := 22) rfl (by decide)).mpr hk
    have hlt : (μ.1 115 (μ.1 112 11).toNatClampNeg) - 25 < 0 := by rw [hX]; decide
    have hle : μ.1 115 (μ.1 112 11).toNatClampNeg ≤ 27 := by rw [hX]; decide
    have hbad : tll Y t w T Lw N = .error (1, pl Y t) := by unfold tll; rw [if_neg (by omega), if_neg (by omega), if_neg (by omega), if_neg (by omega), if_neg (by omega), if_neg (by omega), if_neg (by omega)]
    exact b_X12_tellOne_0 (ψ0 := fun _ => True) (ψ1 := fun _ => True) (ψ8 := fun _ => True) (ψ18 := fun _ => True) (ψ19 := fun _ => True) (ψ20 := fun _ => True) hG hP io (fun z => absurd (hX.symm.trans z) (by decide)) (fun z => absurd (hX.symm.trans z) (by decide)) (fun z => absurd (hX.symm.trans z) (by decide)) (fun _ z => absurd (hX.symm.trans z) (by decide)) (fun _ z => absurd (hX.symm.trans z) (by decide)) (fun _ z => absurd (hX.symm.trans z) (by decide)) (fun _ _ _ _ => o_bad hG hP h hbad _) (fun _ _ _ z => absurd hlt z) (fun _ _ _ z => absurd hlt z) (fun _ _ z => absurd hX z) (fun _ _ z => absurd hX z) (fun _ _ z => absurd hX z) (fun _ _ z => absurd hX z) (fun _ _ z => absurd hX z) (fun _ _ z => absurd hX z) (fun _ _ z => absurd hX z) (fun _ _ z => absurd hX z) (fun _ _ z => absurd hX z) (fun _ _ z => absurd hX z) (fun _ _ z => absurd hX z) (fun _ _ z => absurd hX z) (fun _ _ z => absurd hX z) (fun _ _ z => absurd hX z) (fun _ _ z => absurd hX z) (fun _ _ z => absurd hX z) (fun _ _ z => absurd hX z) (fun _ _ z => absurd hX z) (fun _ _ z => absurd hX z) (fun _ _ z => absurd hX z) (fun _ _ z => absurd hX z) (fun _ _ z => absurd hX z) (fun _ _ z => absurd hX z) (fun _ _ z => absurd hX z)
  have n22 : ¬ μ.1 115 (μ.1 112 11).toNatClampNeg = 22 := fun z => hk ((ke (c := 22) rfl (by decide)).mp z)
  have m22 := hk
  clear hk
  by_cases hk : kd Y t = 23
  · have hX : μ.1 115 (μ.1 112 11).toNatClampNeg = 23 := (ke (c := 23) rfl (by decide)).mpr hk
    have hlt : (μ.1 115 (μ.1 112 11).toNatClampNeg) - 25 < 0 := by rw [hX]; decide
    have hle : μ.1 115 (μ.1 112 11).toNatClampNeg ≤ 27 := by rw [hX]; decide
    have hbad : tll Y t w T Lw N = .error (1, pl Y t) := by unfold tll; rw [if_neg (by omega), if_neg (by omega), if_neg (by omega), if_neg (by omega), if_neg (by omega), if_neg (by omega), if_neg (by omega)]
    exact b_X12_tellOne_0 (ψ0 := fun _ => True) (ψ1 := fun _ => True) (ψ8 := fun _ => True) (ψ18 := fun _ => True) (ψ19 := fun _ => True) (ψ20 := fun _ => True) hG hP io (fun z => absurd (hX.symm.trans z) (by decide)) (fun z => absurd (hX.symm.trans z) (by decide)) (fun z => absurd (hX.symm.trans z) (by decide)) (fun _ z => absurd (hX.symm.trans z) (by decide)) (fun _ z => absurd (hX.symm.trans z) (by decide)) (fun _ z => absurd (hX.symm.trans z) (by decide)) (fun _ _ z => absurd (hX.symm.trans z) (by decide)) (fun _ _ z => absurd (hX.symm.trans z) (by decide)) (fun _ _ z => absurd (hX.symm.trans z) (by decide)) (fun _ _ _ _ _ => o_bad hG hP h hbad _) (fun _ _ _ _ z => absurd hlt z) (fun _ _ _ _ z => absurd hlt z) (fun _ _ _ z => absurd hX z) (fun _ _ _ z => absurd hX z) (fun _ _ _ z => absurd hX z) (fun _ _ _ z => absurd hX z) (fun _ _ _ z => absurd hX z) (fun _ _ _ z => absurd hX z) (fun _ _ _ z => absurd hX z) (fun _ _ _ z => absurd hX z) (fun _ _ _ z => absurd hX z) (fun _ _ _ z => absurd hX z) (fun _ _ _ z => absurd hX z) (fun _ _ _ z => absurd hX z) (fun _ _ _ z => absurd hX z) (fun _ _ _ z => absurd hX z) (fun _ _ _ z => absurd hX z) (fun _ _ _ z => absurd hX z) (fun _ _ _ z => absurd hX z) (fun _ _ _ z => absurd hX z) (fun _ _ _ z => absurd hX z) (fun _ _ _ z => absurd hX z) (fun _ _ _ z => absurd hX z)
  have n23 : ¬ μ.1 115 (μ.1 112 11).toNatClampNeg = 23 := fun z => hk ((ke (c := 23) rfl (by decide)).mp z)
  have m23 := hk
  clear hk
  by_cases hk : kd Y t = 24
  · have hX : μ.1 115 (μ.1 112 11).toNatClampNeg = 24 := (ke (c := 24) rfl (by decide)).mpr hk
    have hlt : (μ.1 115 (μ.1 112 11).toNatClampNeg) - 25 < 0 := by rw [hX]; decide
    have hle : μ.1 115 (μ.1 112 11).toNatClampNeg ≤ 27 := by rw [hX]; decide
    exact b_X12_tellOne_0 (ψ0 := fun _ => True) (ψ1 := fun _ => True) (ψ18 := fun _ => True) (ψ19 := fun _ => True) (ψ20 := fun _ => True) hG hP io (fun z => absurd (hX.symm.trans z) (by decide)) (fun z => absurd (hX.symm.trans z) (by decide)) (fun z => absurd (hX.symm.trans z) (by decide)) (fun _ z => absurd (hX.symm.trans z) (by decide)) (fun _ z => absurd (hX.symm.trans z) (by decide)) (fun _ z => absurd (hX.symm.trans z) (by decide)) (fun _ _ z => absurd (hX.symm.trans z) (by decide)) (fun _ _ z => absurd (hX.symm.trans z) (by decide)) (fun _ _ z => absurd (hX.symm.trans z) (by decide)) (fun _ _ _ z => absurd (hX.symm.trans z) (by decide)) (fun _ _ _ z => absurd (hX.symm.trans z) (by decide)) (fun _ _ _ z => absurd (hX.symm.trans z) (by decide)) (fun _ _ _ _ _ => iv) (fun _ _ _ _ _ => by rw [cv, dI'.2.2.1]; exact u_roomFor (has := T 0 2) (most := 7) hG hP h (by omega) rfl rfl (by omega) (by decide)) (fun _ _ _ _ _ => fun μ1 h1 => by exact o_ghost hG hP hY hd hp hk h1.1 h1.2) (fun _ _ _ _ z => absurd hX z) (fun _ _ _ _ z => absurd hX z) (fun _ _ _ _ z => absurd hX z) (fun _ _ _ _ z => absurd hX z) (fun _ _ _ _ z => absurd hX z) (fun _ _ _ _ z => absurd hX z) (fun _ _ _ _ z => absurd hX z) (fun _ _ _ _ z => absurd hX z) (fun _ _ _ _ z => absurd hX z) (fun _ _ _ _ z => absurd hX z) (fun _ _ _ _ z => absurd hX z) (fun _ _ _ _ z => absurd hX z) (fun _ _ _ _ z => absurd hX z) (fun _ _ _ _ z => absurd hX z) (fun _ _ _ _ z => absurd hX z) (fun _ _ _ _ z => absurd hX z) (fun _ _ _ _ z => absurd hX z) (fun _ _ _ _ z => absurd hX z)
  have n24 : ¬ μ.1 115 (μ.1 112 11).toNatClampNeg = 24 := fun z => hk ((ke (c := 24) rfl (by decide)).mp z)
  have m24 := hk
  clear hk
  by_cases hk : kd Y t = 25
  · have hX : μ.1 115 (μ.1 112 11).toNatClampNeg = 25 := (ke (c := 25) rfl (by decide)).mpr hk
    have hnlt : ¬ (μ.1 115 (μ.1 112 11).toNatClampNeg) - 25 < 0 := by rw [hX]; decide
    have hle : μ.1 115 (μ.1 112 11).toNatClampNeg ≤ 27 := by rw [hX]; decide
    exact b_X12_tellOne_0 (ψ0 := fun _ => True) (ψ1 := fun _ => True) (ψ8 := fun _ => True) (ψ18 := fun _ => True) (ψ19 := fun _ => True) (ψ20 := fun _ => True) hG hP io (fun z => absurd (hX.symm.trans z) (by decide)) (fun z => absurd (hX.symm.trans z) (by decide)) (fun z => absurd (hX.symm.trans z) (by decide)) (fun _ z => absurd (hX.symm.trans z) (by decide)) (fun _ z => absurd (hX.symm.trans z) (by decide)) (fun _ z => absurd (hX.symm.trans z) (by decide)) (fun _ _ z => absurd (hX.symm.trans z) (by decide)) (fun _ _ z => absurd (hX.symm.trans z) (by decide)) (fun _ _ z => absurd (hX.symm.trans z) (by decide)) (fun _ _ _ z => absurd (hX.symm.trans z) (by decide)) (fun _ _ _ z => absurd (hX.symm.trans z) (by decide)) (fun _ _ _ z => absurd (hX.symm.trans z) (by decide)) (fun _ _ _ _ z => absurd (hX.symm.trans z) (by decide)) (fun _ _ _ _ z => absurd (hX.symm.trans z) (by decide)) (fun _ _ _ _ z => absurd (hX.symm.trans z) (by decide)) (fun _ _ _ _ _ _ z => absurd z hnlt) (fun _ _ _ _ _ _ _ _ => o_law hG hP h hd (by omega) (by rw [ek]; exact nI_subN (b := 25) (by omega))) (fun _ _ _ _ _ _ _ z => absurd hle z) (fun _ _ _ _ _ z => absurd hX z) (fun _ _ _ _ _ z => absurd hX z) (fun _ _ _ _ _ z => absurd hX z) (fun _ _ _ _ _ z => absurd hX z) (fun _ _ _ _ _ z => absurd hX z) (fun _ _ _ _ _ z => absurd hX z) (fun _ _ _ _ _ z => absurd hX z) (fun _ _ _ _ _ z => absurd hX z) (fun _ _ _ _ _ z => absurd hX z) (fun _ _ _ _ _ z => absurd hX z) (fun _ _ _ _ _ z => absurd hX z) (fun _ _ _ _ _ z => absurd hX z) (fun _ _ _ _ _ z => absurd hX z) (fun _ _ _ _ _ z => absurd hX z) (fun _ _ _ _ _ z => absurd hX z)
  have n25 : ¬ μ.1 115 (μ.1 112 11).toNatClampNeg = 25 := fun z => hk ((ke (c := 25) rfl (by decide)).mp z)
  have m25 := hk
  clear hk
  by_cases hk : kd Y t = 26
  · have hX : μ.1 115 (μ.1 112 11).toNatClampNeg = 26 := (ke (c := 26) rfl (by decide)).mpr hk
    have hnlt : ¬ (μ.1 115 (μ.1 112 11).toNatClampNeg) - 25 < 0 := by rw [hX]; decide
    have hle : μ.1 115 (μ.1 112 11).toNatClampNeg ≤ 27 := by rw [hX]; decide
    exact b_X12_tellOne_0 (ψ0 := fun _ => True) (ψ1 := fun _ => True) (ψ8 := fun _ => True) (ψ18 := fun _ => True) (ψ19 := fun _ => True) (ψ20 := fun _ => True) hG hP io (fun z => absurd (hX.symm.trans z) (by decide)) (fun z => absurd (hX.symm.trans z) (by decide)) (fun z => absurd (hX.symm.trans z) (by decide)) (fun _ z => absurd (hX.symm.trans z) (by decide)) (fun _ z => absurd (hX.symm.trans z) (by decide)) (fun _ z => absurd (hX.symm.trans z) (by decide)) (fun _ _ z => absurd (hX.symm.trans z) (by decide)) (fun _ _ z => absurd (hX.symm.trans z) (by decide)) (fun _ _ z => absurd (hX.symm.trans z) (by decide)) (fun _ _ _ z => absurd (hX.symm.trans z) (by decide)) (fun _ _ _ z => absurd (hX.symm.trans z) (by decide)) (fun _ _ _ z => absurd (hX.symm.trans z) (by decide)) (fun _ _ _ _ z => absurd (hX.symm.trans z) (by decide)) (fun _ _ _ _ z => absurd (hX.symm.trans z) (by decide)) (fun _ _ _ _ z => absurd (hX.symm.trans z) (by decide)) (fun _ _ _ _ _ z => absurd (hX.symm.trans z) (by decide)) (fun _ _ _ _ _ z => absurd (hX.symm.trans z) (by decide)) (fun _ _ _ _ _ z => absurd (hX.symm.trans z) (by decide)) (fun _ _ _ _ _ _ _ z => absurd z hnlt) (fun _ _ _ _ _ _ _ _ _ => o_law hG hP h hd (by omega) (by rw [ek]; exact nI_subN (b := 25) (by omega))) (fun _ _ _ _ _ _ _ _ z => absurd hle z) (fun _ _ _ _ _ _ z => absurd hX z) (fun _ _ _ _ _ _ z => absurd hX z) (fun _ _ _ _ _ _ z => absurd hX z) (fun _ _ _ _ _ _ z => absurd hX z) (fun _ _ _ _ _ _ z => absurd hX z) (fun _ _ _ _ _ _ z => absurd hX z) (fun _ _ _ _ _ _ z => absurd hX z) (fun _ _ _ _ _ _ z => absurd hX z) (fun _ _ _ _ _ _ z => absurd hX z) (fun _ _ _ _ _ _ z => absurd hX z) (fun _ _ _ _ _ _ z => absurd hX z) (fun _ _ _ _ _ _ z => absurd hX z)
  have n26 : ¬ μ.1 115 (μ.1 112 11).toNatClampNeg = 26 := fun z => hk ((ke (c := 26) rfl (by decide)).mp z)
  have m26 := hk
  clear hk
  by_cases hk : kd Y t = 27
  · have hX : μ.1 115 (μ.1 112 11).toNatClampNeg = 27 := (ke (c := 27) rfl (by decide)).mpr hk
    have hnlt : ¬ (μ.1 115 (μ.1 112 11).toNatClampNeg) - 25 < 0 := by rw [hX]; decide
    have hle : μ.1 115 (μ.1 112 11).toNatClampNeg ≤ 27 := by rw [hX]; decide
    exact b_X12_tellOne_0 (ψ0 := fun _ => True) (ψ1 := fun _ => True) (ψ8 := fun _ => True) (ψ18 := fun _ => True) (ψ19 := fun _ => True) (ψ20 := fun _ => True) hG hP io (fun z => absurd (hX.symm.trans z) (by decide)) (fun z => absurd (hX.symm.trans z) (by decide)) (fun z => absurd (hX.symm.trans z) (by decide)) (fun _ z => absurd (hX.symm.trans z) (by decide)) (fun _ z => absurd (hX.symm.trans z) (by decide)) (fun _ z => absurd (hX.symm.trans z) (by decide)) (fun _ _ z => absurd (hX.symm.trans z) (by decide)) (fun _ _ z => absurd (hX.symm.trans z) (by decide)) (fun _ _ z => absurd (hX.symm.trans z) (by decide)) (fun _ _ _ z => absurd (hX.symm.trans z) (by decide)) (fun _ _ _ z => absurd (hX.symm.trans z) (by decide)) (fun _ _ _ z => absurd (hX.symm.trans z) (by decide)) (fun _ _ _ _ z => absurd (hX.symm.trans z) (by decide)) (fun _ _ _ _ z => absurd (hX.symm.trans z) (by decide)) (fun _ _ _ _ z => absurd (hX.symm.trans z) (by decide)) (fun _ _ _ _ _ z => absurd (hX.symm.trans z) (by decide)) (fun _ _ _ _ _ z => absurd (hX.symm.trans z) (by decide)) (fun _ _ _ _ _ z => absurd (hX.symm.trans z) (by decide)) (fun _ _ _ _ _ _ z => absurd (hX.symm.trans z) (by decide)) (fun _ _ _ _ _ _ z => absurd (hX.symm.trans z) (by decide)) (fun _ _ _ _ _ _ z => absurd (hX.symm.trans z) (by decide)) (fun _ _ _ _ _ _ _ _ z => absurd z hnlt) (fun _ _ _ _ _ _ _ _ _ _ => o_law hG hP h hd (by omega) (by rw [ek]; exact nI_subN (b := 25) (by omega))) (fun _ _ _ _ _ _ _ _ _ z => absurd hle z) (fun _ _ _ _ _ _ _ z => absurd hX z) (fun _ _ _ _ _ _ _ z => absurd hX z) (fun _ _ _ _ _ _ _ z => absurd hX z) (fun _ _ _ _ _ _ _ z => absurd hX z) (fun _ _ _ _ _ _ _ z => absurd hX z) (fun _ _ _ _ _ _ _ z => absurd hX z) (fun _ _ _ _ _ _ _ z => absurd hX z) (fun _ _ _ _ _ _ _ z => absurd hX z) (fun _ _ _ _ _ _ _ z => absurd hX z)
  have n27 : ¬ μ.1 115 (μ.1 112 11).toNatClampNeg = 27 := fun z => hk ((ke (c := 27) rfl (by decide)).mp z)
  have m27 := hk
  clear hk
  by_cases hk : kd Y t = 28
  · have hX : μ.1 115 (μ.1 112 11).toNatClampNeg = 28 := (ke (c := 28) rfl (by decide)).mpr hk
    have hnlt : ¬ (μ.1 115 (μ.1 112 11).toNatClampNeg) - 25 < 0 := by rw [hX]; decide
    have hnle : ¬ μ.1 115 (μ.1 112 11).toNatClampNeg ≤ 27 := by rw [hX]; decide
    exact b_X12_tellOne_0 (ψ0 := fun _ => True) (ψ1 := fun _ => True) (ψ8 := fun _ => True) (ψ19 := fun _ => True) (ψ20 := fun _ => True) hG hP io (fun z => absurd (hX.symm.trans z) (by decide)) (fun z => absurd (hX.symm.trans z) (by decide)) (fun z => absurd (hX.symm.trans z) (by decide)) (fun _ z => absurd (hX.symm.trans z) (by decide)) (fun _ z => absurd (hX.symm.trans z) (by decide)) (fun _ z => absurd (hX.symm.trans z) (by decide)) (fun _ _ z => absurd (hX.symm.trans z) (by decide)) (fun _ _ z => absurd (hX.symm.trans z) (by decide)) (fun _ _ z => absurd (hX.symm.trans z) (by decide)) (fun _ _ _ z => absurd (hX.symm.trans z) (by decide)) (fun _ _ _ z => absurd (hX.symm.trans z) (by decide)) (fun _ _ _ z => absurd (hX.symm.trans z) (by decide)) (fun _ _ _ _ z => absurd (hX.symm.trans z) (by decide)) (fun _ _ _ _ z => absurd (hX.symm.trans z) (by decide)) (fun _ _ _ _ z => absurd (hX.symm.trans z) (by decide)) (fun _ _ _ _ _ z => absurd (hX.symm.trans z) (by decide)) (fun _ _ _ _ _ z => absurd (hX.symm.trans z) (by decide)) (fun _ _ _ _ _ z => absurd (hX.symm.trans z) (by decide)) (fun _ _ _ _ _ _ z => absurd (hX.symm.trans z) (by decide)) (fun _ _ _ _ _ _ z => absurd (hX.symm.trans z) (by decide)) (fun _ _ _ _ _ _ z => absurd (hX.symm.trans z) (by decide)) (fun _ _ _ _ _ _ _ z => absurd (hX.symm.trans z) (by decide)) (fun _ _ _ _ _ _ _ z => absurd (hX.symm.trans z) (by decide)) (fun _ _ _ _ _ _ _ z => absurd (hX.symm.trans z) (by decide)) (fun _ _ _ _ _ _ _ _ _ => u_goesOn hG hP hg0 (fun a ha => by cases ha; show kd Y t ≠ 0 ∧ kd Y t ≠ 3; omega)) (fun _ _ _ _ _ _ _ _ _ => fun μ1 h1 => o_fog hG hP hY hd hk h1.1 h1.2) (fun _ _ _ _ _ _ _ _ z => absurd hX z) (fun _ _ _ _ _ _ _ _ z => absurd hX z) (fun _ _ _ _ _ _ _ _ z => absurd hX z) (fun _ _ _ _ _ _ _ _ z => absurd hX z) (fun _ _ _ _ _ _ _ _ z => absurd hX z) (fun _ _ _ _ _ _ _ _ z => absurd hX z) (fun _ _ _ _ _ _ _ _ z => absurd hX z)
  have n28 : ¬ μ.1 115 (μ.1 112 11).toNatClampNeg = 28 := fun z => hk ((ke (c := 28) rfl (by decide)).mp z)
  have m28 := hk
  clear hk
  by_cases hk : kd Y t = 29
  · have hX : μ.1 115 (μ.1 112 11).toNatClampNeg = 29 := (ke (c := 29) rfl (by decide)).mpr hk
    have hnlt : ¬ (μ.1 115 (μ.1 112 11).toNatClampNeg) - 25 < 0 := by rw [hX]; decide
    have hnle : ¬ μ.1 115 (μ.1 112 11).toNatClampNeg ≤ 27 := by rw [hX]; decide
    exact b_X12_tellOne_0 (ψ0 := fun _ => True) (ψ1 := fun _ => True) (ψ8 := fun _ => True) (ψ18 := fun _ => True) (ψ20 := fun _ => True) hG hP io (fun z => absurd (hX.symm.trans z) (by decide)) (fun z => absurd (hX.symm.trans z) (by decide)) (fun z => absurd (hX.symm.trans z) (by decide)) (fun _ z => absurd (hX.symm.trans z) (by decide)) (fun _ z => absurd (hX.symm.trans z) (by decide)) (fun _ z => absurd (hX.symm.trans z) (by decide)) (fun _ _ z => absurd (hX.symm.trans z) (by decide)) (fun _ _ z => absurd (hX.symm.trans z) (by decide)) (fun _ _ z => absurd (hX.symm.trans z) (by decide)) (fun _ _ _ z => absurd (hX.symm.trans z) (by decide)) (fun _ _ _ z => absurd (hX.symm.trans z) (by decide)) (fun _ _ _ z => absurd (hX.symm.trans z) (by decide)) (fun _ _ _ _ z => absurd (hX.symm.trans z) (by decide)) (fun _ _ _ _ z => absurd (hX.symm.trans z) (by decide)) (fun _ _ _ _ z => absurd (hX.symm.trans z) (by decide)) (fun _ _ _ _ _ z => absurd (hX.symm.trans z) (by decide)) (fun _ _ _ _ _ z => absurd (hX.symm.trans z) (by decide)) (fun _ _ _ _ _ z => absurd (hX.symm.trans z) (by decide)) (fun _ _ _ _ _ _ z => absurd (hX.symm.trans z) (by decide)) (fun _ _ _ _ _ _ z => absurd (hX.symm.trans z) (by decide)) (fun _ _ _ _ _ _ z => absurd (hX.symm.trans z) (by decide)) (fun _ _ _ _ _ _ _ z => absurd (hX.symm.trans z) (by decide)) (fun _ _ _ _ _ _ _ z => absurd (hX.symm.trans z) (by decide)) (fun _ _ _ _ _ _ _ z => absurd (hX.symm.trans z) (by decide)) (fun _ _ _ _ _ _ _ _ z => absurd (hX.symm.trans z) (by decide)) (fun _ _ _ _ _ _ _ _ z => absurd (hX.symm.trans z) (by decide)) (fun _ _ _ _ _ _ _ _ _ _ => u_goesOn hG hP hg0 (fun a ha => by cases ha; show kd Y t ≠ 0 ∧ kd Y t ≠ 3; omega)) (fun _ _ _ _ _ _ _ _ _ _ => fun μ1 h1 => o_lamp hG hP hY hd hk h1.1 h1.2) (fun _ _ _ _ _ _ _ _ _ z => absurd hX z) (fun _ _ _ _ _ _ _ _ _ z => absurd hX z) (fun _ _ _ _ _ _ _ _ _ z => absurd hX z) (fun _ _ _ _ _ _ _ _ _ z => absurd hX z) (fun _ _ _ _ _ _ _ _ _ z => absurd hX z)
  have n29 : ¬ μ.1 115 (μ.1 112 11).toNatClampNeg = 29 := fun z => hk ((ke (c := 29) rfl (by decide)).mp z)
  have m29 := hk
  clear hk
  by_cases hk : kd Y t = 30
  · have hX : μ.1 115 (μ.1 112 11).toNatClampNeg = 30 := (ke (c := 30) rfl (by decide)).mpr hk
    have hnlt : ¬ (μ.1 115 (μ.1 112 11).toNatClampNeg) - 25 < 0 := by rw [hX]; decide
    have hnle : ¬ μ.1 115 (μ.1 112 11).toNatClampNeg ≤ 27 := by rw [hX]; decide
    exact b_X12_tellOne_0 (ψ0 := fun _ => True) (ψ1 := fun _ => True) (ψ8 := fun _ => True) (ψ18 := fun _ => True) (ψ19 := fun _ => True) hG hP io (fun z => absurd (hX.symm.trans z) (by decide)) (fun z => absurd (hX.symm.trans z) (by decide)) (fun z => absurd (hX.symm.trans z) (by decide)) (fun _ z => absurd (hX.symm.trans z) (by decide)) (fun _ z => absurd (hX.symm.trans z) (by decide)) (fun _ z => absurd (hX.symm.trans z) (by decide)) (fun _ _ z => absurd (hX.symm.trans z) (by decide)) (fun _ _ z => absurd (hX.symm.trans z) (by decide)) (fun _ _ z => absurd (hX.symm.trans z) (by decide)) (fun _ _ _ z => absurd (hX.symm.trans z) (by decide)) (fun _ _ _ z => absurd (hX.symm.trans z) (by decide)) (fun _ _ _ z => absurd (hX.symm.trans z) (by decide)) (fun _ _ _ _ z => absurd (hX.symm.trans z) (by decide)) (fun _ _ _ _ z => absurd (hX.symm.trans z) (by decide)) (fun _ _ _ _ z => absurd (hX.symm.trans z) (by decide)) (fun _ _ _ _ _ z => absurd (hX.symm.trans z) (by decide)) (fun _ _ _ _ _ z => absurd (hX.symm.trans z) (by decide)) (fun _ _ _ _ _ z => absurd (hX.symm.trans z) (by decide)) (fun _ _ _ _ _ _ z => absurd (hX.symm.trans z) (by decide)) (fun _ _ _ _ _ _ z => absurd (hX.symm.trans z) (by decide)) (fun _ _ _ _ _ _ z => absurd (hX.symm.trans z) (by decide)) (fun _ _ _ _ _ _ _ z => absurd (hX.symm.trans z) (by decide)) (fun _ _ _ _ _ _ _ z => absurd (hX.symm.trans z) (by decide)) (fun _ _ _ _ _ _ _ z => absurd (hX.symm.trans z) (by decide)) (fun _ _ _ _ _ _ _ _ z => absurd (hX.symm.trans z) (by decide)) (fun _ _ _ _ _ _ _ _ z => absurd (hX.symm.trans z) (by decide)) (fun _ _ _ _ _ _ _ _ _ z => absurd (hX.symm.trans z) (by decide)) (fun _ _ _ _ _ _ _ _ _ z => absurd (hX.symm.trans z) (by decide)) (fun _ _ _ _ _ _ _ _ _ _ _ => u_goesOn hG hP hg0 (fun a ha => by cases ha; show kd Y t ≠ 0 ∧ kd Y t ≠ 3; omega)) (fun _ _ _ _ _ _ _ _ _ _ _ => fun μ1 h1 => o_seed hG hP hY hd hk h1.1 h1.2) (fun _ _ _ _ _ _ _ _ _ _ z => absurd hX z) (fun _ _ _ _ _ _ _ _ _ _ z => absurd hX z) (fun _ _ _ _ _ _ _ _ _ _ z => absurd hX z)
  have n30 : ¬ μ.1 115 (μ.1 112 11).toNatClampNeg = 30 := fun z => hk ((ke (c := 30) rfl (by decide)).mp z)
  have m30 := hk
  clear hk
  have hbad : tll Y t w T Lw N = .error (1, pl Y t) := by unfold tll; rw [if_neg (by omega), if_neg (by omega), if_neg (by omega), if_neg (by omega), if_neg (by omega), if_neg (by omega), if_neg (by omega)]
  have hmid : ¬ (μ.1 115 (μ.1 112 11).toNatClampNeg) - 25 < 0 → ¬ μ.1 115 (μ.1 112 11).toNatClampNeg ≤ 27 := by
    rw [ek]
    intro z1 z2
    have z2 := (nI_leI (b := 27) (by omega) (by decide)).mp z2
    have hlt : kd Y t < 20 := by omega
    refine z1 ?_
    have : ∀ k, k < 20 → nI k - 25 < 0 := by decide
    exact this _ hlt
  exact b_X12_tellOne_0 (ψ0 := fun _ => True) (ψ1 := fun _ => True) (ψ8 := fun _ => True) (ψ18 := fun _ => True) (ψ19 := fun _ => True) (ψ20 := fun _ => True) hG hP io (fun z => absurd z n20) (fun z => absurd z n20) (fun z => absurd z n20) (fun _ z => absurd z n21) (fun _ z => absurd z n21) (fun _ z => absurd z n21) (fun _ _ z => absurd z n22) (fun _ _ z => absurd z n22) (fun _ _ z => absurd z n22) (fun _ _ _ z => absurd z n23) (fun _ _ _ z => absurd z n23) (fun _ _ _ z => absurd z n23) (fun _ _ _ _ z => absurd z n24) (fun _ _ _ _ z => absurd z n24) (fun _ _ _ _ z => absurd z n24) (fun _ _ _ _ _ z => absurd z n25) (fun _ _ _ _ _ z => absurd z n25) (fun _ _ _ _ _ z => absurd z n25) (fun _ _ _ _ _ _ z => absurd z n26) (fun _ _ _ _ _ _ z => absurd z n26) (fun _ _ _ _ _ _ z => absurd z n26) (fun _ _ _ _ _ _ _ z => absurd z n27) (fun _ _ _ _ _ _ _ z => absurd z n27) (fun _ _ _ _ _ _ _ z => absurd z n27) (fun _ _ _ _ _ _ _ _ z => absurd z n28) (fun _ _ _ _ _ _ _ _ z => absurd z n28) (fun _ _ _ _ _ _ _ _ _ z => absurd z n29) (fun _ _ _ _ _ _ _ _ _ z => absurd z n29) (fun _ _ _ _ _ _ _ _ _ _ z => absurd z n30) (fun _ _ _ _ _ _ _ _ _ _ z => absurd z n30) (fun _ _ _ _ _ _ _ _ _ _ _ _ => o_bad hG hP h hbad _) (fun _ _ _ _ _ _ _ _ _ _ _ z1 z2 => absurd z2 (hmid z1)) (fun _ _ _ _ _ _ _ _ _ _ _ _ _ => o_bad hG hP h hbad _)
end ParO
