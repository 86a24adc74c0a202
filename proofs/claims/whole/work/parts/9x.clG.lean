/-! THE CLASS reads: a GHOST, a telling -/
section ClG
variable {l : Launch} {G : jG} {Y : List Int32} {w : Nat × Nat} {d : Nat} {T : sT} {Lw : Nat → sLaw} {N : nL}
def tGc (Y : List Int32) (t : Nat) (w : Nat × Nat) (T : sT) (Lw : Nat → sLaw) (N : nL) : Except pF pS := bd (if T 0 2 = 7 then .error (2, pl Y t) else tke Y t) fun t1 => bd (nwN Y t1 w N) fun n => bd (olP Y NON n.1 n.2 N) fun a => bd (olP Y a.2.2 a.1 a.2.1 N) fun b => bd (nmb Y 0 9 b.1 b.2.1) fun k => bd (nmb Y 0 99 k.1 k.2.1) fun c => bd (nmb Y 1 9 c.1 c.2.1) fun e => .ok (e.1, e.2.1, ghT T a.2.2 b.2.2 k.2.2 c.2.2 e.2.2, Lw, N ++ [(nm Y t1, NON)])
theorem c_X4_readGhost (hG : gGG G) {μ : jM} (hP : gPP μ) (h70 : d = 70 ∨ d = 91) (hd : tO gTold pTold G μ d) (q37 : μ.2.2 3 7 = some d) {t : Nat} (h : okC Y t w μ) (hc : dC d T Lw N μ) (hp : pOK Y t w T Lw N) (hk : kd Y t = 24) : jC0 l mX4_readGhost 4 G [.ref 3] μ (pV fun μ' => qC Y d (tGc Y t w T Lw N) μ' ∧ clF d μ μ') := by
  refine jC0.of' (ls := [.ref 3, .null]) rfl rfl rfl (fun _ _ => Nat.le_of_ble_eq_true rfl) ?_
  obtain ⟨a1, a2, a3, a4, a5, a6⟩ := id hc
  obtain ⟨-, -, ⟨t00, t01, t02, t03⟩, ⟨n1, n2, n3, n4⟩, -, -⟩ := hp
  have e8 : μ.1 d 2 < 7 ↔ T 0 2 < 7 := by rw [a1.2.2.1]; exact nI_ltI (b := 7) (by omega) (by decide)
  have n0 : ∀ c ∈ ([] : List Nat), c = 9 ∨ c = 10 := fun c hc => by cases hc
  have hd70 : 70 ≤ d := by omega
  unfold tGc
  by_cases h8 : T 0 2 = 7
  · rw [if_pos h8]
    refine b_X4_readGhost_0 (ψ0 := fun _ => True) hG hP hd q37 (fun z => absurd (e8.mp z) (by omega)) (fun z => absurd (e8.mp z) (by omega)) (fun _ => c_X4_failHere hG hP h (k := 2) rfl (Or.inr rfl)) (fun _ μ1 h1 => ?_)
    exact b_X4_readGhost_19 hG (h1.2.gPP hP) ⟨h1.1, clF_3 h1.2 hd70 n0⟩
  rw [if_neg h8]
  have h7 : T 0 2 < 7 := by omega
  have ix : vp_in (nI (T 0 2)) 7 := vp_in_nI h7 (by decide)
  have cx : (nI (T 0 2)).toNatClampNeg = T 0 2 := nI_clamp (by omega)
  refine b_X4_readGhost_0 (ψ1 := fun _ => True) hG hP hd q37 (fun _ => c_X4_take hG hP h (by omega)) (fun _ μ0 h0 => ?_) (fun z => absurd (e8.mpr h7) z) (fun z => absurd (e8.mpr h7) z)
  obtain ⟨h0, o0⟩ := h0
  have P0 := o0.gPP hP
  have D0 := o0.tO hd
  have Q0 : μ0.2.2 3 7 = some d := by rw [o0.1]; exact q37
  have c0 := dC_3 hc o0 hd70
  have N0 := c0.2.2.2.2.1
  have f0 : clF d μ μ0 := clF_3 o0 hd70 n0
  have hu : uC Y (tke Y t) id (fun _ => w) μ0 := h0
  rw [a1.2.2.1]
  refine b_X4_readGhost_24 hG P0 (v_readNewName (k := T 0 2) hG P0 (hG 10 (3, 7) rfl) (by decide) h7 hd70 D0 Q0 hu N0 (by decide) rfl) (fun μ1 h1 => ?_)
  obtain ⟨h1, g1, o1, e1⟩ := h1
  have P1 := o1.gPP P0
  have D1 := o1.tO D0
  have Q1 : μ1.2.2 3 7 = some d := by rw [o1.1]; exact Q0
  have f1 := f0.trans (clF_3 o1 hd70 (fun c hc => Or.inr (by simpa using hc)))
  have N1 : nmC N d μ1 := by
    obtain ⟨b1, b2, b3, b4, b5⟩ := N0
    refine ⟨b1, by rw [o1.2.1 d (by omega) (by simp)]; exact b2, by rw [o1.2.1 d (by omega) (by simp)]; exact b3, fun j n hj => by rw [o1.2.2.2 9 (by simp)]; exact b4 j n hj, fun j n hj => ?_⟩
    have hl := (List.getElem?_eq_some_iff.mp hj).1
    rw [e1 j (by omega)]; exact b5 j n hj
  have l1 := N1.1.1
  refine b_X4_readGhost_33 hG P1 D1 Q1 (v_readOldPlace (bb := fun _ => NON) hG P1 hd70 D1 Q1 h1 N1 (fun a _ => ⟨nI_NON.symm, Or.inl rfl⟩)) ?_
  rintro v2 μ2 ⟨g2, h2, o2⟩
  have P2 := o2.gPP P1
  have D2 := o2.tO D1
  have Q2 : μ2.2.2 3 7 = some d := by rw [o2.1]; exact Q1
  have N2 := nmC_3 N1 o2 (by omega)
  have f2 := f1.trans (clF_3 o2 hd70 n0)
  obtain ⟨μ2', e2'⟩ : ∃ m, wI μ2 (d + 4) (T 0 2) v2 = m := ⟨_, rfl⟩
  have P2' : gPP μ2' := by rw [← e2']; exact gPP_of (μ := μ2) rfl P2
  have D2' : tO gTold pTold G μ2' d := by rw [← e2']; exact tO_of (μ := μ2) rfl D2
  have Q2' : μ2'.2.2 3 7 = some d := by rw [← e2']; exact Q2
  have N2' : nmC N d μ2' := by rw [← e2']; exact nmC_w N2 (by omega)
  have h2' := uC_w (c := d + 4) (i := T 0 2) (y := v2) h2 (by omega)
  rw [e2'] at h2'
  have f2' : clF d μ μ2' := by rw [← e2']; exact f2.trans (clF_w (by omega) (by omega))
  have bb8 : ∀ {b : Nat} {tt : Nat} {ww : Nat × Nat} {r : Nat × (Nat × Nat) × Nat}, olP Y b tt ww N = .ok r → r.2.2 = NON ∨ r.2.2 < 8 := fun {b tt ww r} e => by
    unfold olP at e
    obtain ⟨t1, -, e⟩ := bd_inv e
    cases e
    rcases fid_in (plN N) (nm Y tt) 0 with z | z
    · exact Or.inl z
    · exact Or.inr (by show fid (plN N) (nm Y tt) 0 < 8; omega)
  refine b_X4_readGhost_46 hG P2 D2 Q2 ix ix (by rw [cx, wI_at, e2']; exact v_readOldPlace (bb := fun p => p.2.2.2) hG P2' hd70 D2' Q2' h2' N2' (fun p hp => ⟨g2 p hp, bb8 (px_inv hp).2⟩)) ?_
  rintro v3 μ3 ⟨g3, h3, o3⟩
  have f3 := f2'.trans (clF_3 o3 hd70 n0)
  have P3 := f3.gPP hP
  have D3 := f3.tO hd
  have Q3 : μ3.2.2 3 7 = some d := by rw [f3.1]; exact q37
  obtain ⟨μ3', e3'⟩ : ∃ m, wI μ3 (d + 5) (T 0 2) v3 = m := ⟨_, rfl⟩
  have h3' := uC_w (c := d + 5) (i := T 0 2) (y := v3) h3 (by omega)
  rw [e3'] at h3'
  have f3' : clF d μ μ3' := by rw [← e3']; exact f3.trans (clF_w (by omega) (by omega))
  refine b_X4_readGhost_68 hG P3 D3 Q3 ix (by rw [cx, e3']; exact v_readNumber (lo := 0) (hi := 9) hG (f3'.gPP hP) h3' rfl rfl (by decide) (by decide)) ?_
  rintro v4 μ4 ⟨g4, h4, o4⟩
  have f4 := f3'.trans (clF_3 o4 hd70 n0)
  have Q4 : μ4.2.2 3 7 = some d := by rw [f4.1]; exact q37
  obtain ⟨μ4', e4'⟩ : ∃ m, wI μ4 (d + 6) (T 0 2) v4 = m := ⟨_, rfl⟩
  have h4' := uC_w (c := d + 6) (i := T 0 2) (y := v4) h4 (by omega)
  rw [e4'] at h4'
  have f4' : clF d μ μ4' := by rw [← e4']; exact f4.trans (clF_w (by omega) (by omega))
  refine b_X4_readGhost_84 hG (f4.gPP hP) (f4.tO hd) Q4 ix (by rw [cx, e4']; exact v_readNumber (lo := 0) (hi := 99) hG (f4'.gPP hP) h4' rfl rfl (by decide) (by decide)) ?_
  rintro v5 μ5 ⟨g5, h5, o5⟩
  have f5 := f4'.trans (clF_3 o5 hd70 n0)
  have Q5 : μ5.2.2 3 7 = some d := by rw [f5.1]; exact q37
  obtain ⟨μ5', e5'⟩ : ∃ m, wI μ5 (d + 7) (T 0 2) v5 = m := ⟨_, rfl⟩
  have h5' := uC_w (c := d + 7) (i := T 0 2) (y := v5) h5 (by omega)
  rw [e5'] at h5'
  have f5' : clF d μ μ5' := by rw [← e5']; exact f5.trans (clF_w (by omega) (by omega))
  refine b_X4_readGhost_100 hG (f5.gPP hP) (f5.tO hd) Q5 ix (by rw [cx, e5']; exact v_readNumber (lo := 1) (hi := 9) hG (f5'.gPP hP) h5' rfl rfl (by decide) (by decide)) ?_
  rintro v6 μ6 ⟨g6, h6, o6⟩
  have f6 := f5'.trans (clF_3 o6 hd70 n0)
  have Q6 : μ6.2.2 3 7 = some d := by rw [f6.1]; exact q37
  refine b_X4_readGhost_116 hG (f6.gPP hP) (f6.tO hd) Q6 ix ⟨?_, (f6.trans (clF_w (by omega) (by omega))).trans (clF_w (Nat.le_refl _) (by omega))⟩
  rw [cx]
  generalize hx6 : (px (px (px (px (px (px (tke Y t) fun a => nwN Y (id a) w N) fun p => olP Y NON p.2.1 p.2.2 N) fun p => olP Y p.2.2.2 p.2.1 p.2.2.1 N) fun p => nmb Y 0 9 p.2.1 p.2.2.1) fun p => nmb Y 0 99 p.2.1 p.2.2.1) fun p => nmb Y 1 9 p.2.1 p.2.2.1) = x6 at h6 g6
  have hspec : (bd (tke Y t) fun t1 => bd (nwN Y t1 w N) fun n => bd (olP Y NON n.1 n.2 N) fun a => bd (olP Y a.2.2 a.1 a.2.1 N) fun b => bd (nmb Y 0 9 b.1 b.2.1) fun k => bd (nmb Y 0 99 k.1 k.2.1) fun c => bd (nmb Y 1 9 c.1 c.2.1) fun e => (.ok (e.1, e.2.1, ghT T a.2.2 b.2.2 k.2.2 c.2.2 e.2.2, Lw, N ++ [(nm Y t1, NON)]) : Except pF pS)) = bd x6 fun p => .ok (p.2.1, p.2.2.1, ghT T p.1.1.1.1.2.2.2 p.1.1.1.2.2.2 p.1.1.2.2.2 p.1.2.2.2 p.2.2.2, Lw, N ++ [(nm Y p.1.1.1.1.1.1, NON)]) := by
    rw [← hx6]; simp only [px_bd]; rfl
  rw [hspec]
  have ow : cO3 [d + 8, d] [] [] μ6 (wI (wI μ6 (d + 8) (T 0 2) v6) d 2 (((wI μ6 (d + 8) (T 0 2) v6).1 d 2) + 1)) := (cO3_wC (by omega) (by simp)).trans (cO3_wC (by omega) (by simp))
  cases x6 with
  | error f => exact cB_off (show cB f μ6 from h6) ow
  | ok p =>
    have k6 : okC Y p.2.1 p.2.2.1 μ6 := h6
    rw [bd_ok]
    obtain ⟨x5, y6⟩ := px_inv hx6
    obtain ⟨x4, y5⟩ := px_inv x5
    obtain ⟨x3, y4⟩ := px_inv x4
    obtain ⟨x2, y3⟩ := px_inv x3
    obtain ⟨x1, y2⟩ := px_inv x2
    obtain ⟨x0, y1⟩ := px_inv x1
    have gn := g1 _ x1
    have hkd := (nwN_t y1).2
    have w2 := g2 _ x2
    have w3 := g3 _ x3
    have w4 := g4 _ x4
    have w5 := g5 _ x5
    have w6 := g6 _ rfl
    obtain ⟨A, hA⟩ : ∃ A, p.1.1.1.1.2.2.2 = A := ⟨_, rfl⟩
    obtain ⟨B, hB⟩ : ∃ B, p.1.1.1.2.2.2 = B := ⟨_, rfl⟩
    obtain ⟨Kd, hKd⟩ : ∃ Kd, p.1.1.2.2.2 = Kd := ⟨_, rfl⟩
    obtain ⟨C, hC⟩ : ∃ C, p.1.2.2.2 = C := ⟨_, rfl⟩
    obtain ⟨E, hE⟩ : ∃ E, p.2.2.2 = E := ⟨_, rfl⟩
    obtain ⟨τ, hτ⟩ : ∃ τ, p.1.1.1.1.1.1 = τ := ⟨_, rfl⟩
    rw [hA] at w2; rw [hB] at w3; rw [hKd] at w4; rw [hC] at w5; rw [hE] at w6
    rw [hA, hB, hKd, hC, hE, hτ]
    simp only [id, hτ] at gn hkd
    have r4 : μ6.1 (d + 4) = upd (μ0.1 (d + 4)) (T 0 2) (nI A) := by rw [o6.2.1 (d + 4) (by omega) (by simp), ← e5', wI_ne (by omega), o5.2.1 (d + 4) (by omega) (by simp), ← e4', wI_ne (by omega), o4.2.1 (d + 4) (by omega) (by simp), ← e3', wI_ne (by omega), o3.2.1 (d + 4) (by omega) (by simp), ← e2', wI_eq, o2.2.1 (d + 4) (by omega) (by simp), o1.2.1 (d + 4) (by omega) (by simp), w2]
    have r5 : μ6.1 (d + 5) = upd (μ0.1 (d + 5)) (T 0 2) (nI B) := by rw [o6.2.1 (d + 5) (by omega) (by simp), ← e5', wI_ne (by omega), o5.2.1 (d + 5) (by omega) (by simp), ← e4', wI_ne (by omega), o4.2.1 (d + 5) (by omega) (by simp), ← e3', wI_eq, o3.2.1 (d + 5) (by omega) (by simp), ← e2', wI_ne (by omega), o2.2.1 (d + 5) (by omega) (by simp), o1.2.1 (d + 5) (by omega) (by simp), w3]
    have r6 : μ6.1 (d + 6) = upd (μ0.1 (d + 6)) (T 0 2) (nI Kd) := by rw [o6.2.1 (d + 6) (by omega) (by simp), ← e5', wI_ne (by omega), o5.2.1 (d + 6) (by omega) (by simp), ← e4', wI_eq, o4.2.1 (d + 6) (by omega) (by simp), ← e3', wI_ne (by omega), o3.2.1 (d + 6) (by omega) (by simp), ← e2', wI_ne (by omega), o2.2.1 (d + 6) (by omega) (by simp), o1.2.1 (d + 6) (by omega) (by simp), w4]
    have r7 : μ6.1 (d + 7) = upd (μ0.1 (d + 7)) (T 0 2) (nI C) := by rw [o6.2.1 (d + 7) (by omega) (by simp), ← e5', wI_eq, o5.2.1 (d + 7) (by omega) (by simp), ← e4', wI_ne (by omega), o4.2.1 (d + 7) (by omega) (by simp), ← e3', wI_ne (by omega), o3.2.1 (d + 7) (by omega) (by simp), ← e2', wI_ne (by omega), o2.2.1 (d + 7) (by omega) (by simp), o1.2.1 (d + 7) (by omega) (by simp), w5]
    have rr : ∀ c, 70 ≤ c → (c < d + 4 ∨ d + 7 < c) → μ6.1 c = μ0.1 c := fun c h0 h1 => by rw [o6.2.1 c (by omega) (by simp), ← e5', wI_ne (by omega), o5.2.1 c (by omega) (by simp), ← e4', wI_ne (by omega), o4.2.1 c (by omega) (by simp), ← e3', wI_ne (by omega), o3.2.1 c (by omega) (by simp), ← e2', wI_ne (by omega), o2.2.1 c (by omega) (by simp), o1.2.1 c (by omega) (by simp)]
    have rl : ∀ c, μ6.2.1 c = μ1.2.1 c := fun c => by rw [o6.2.2.2 c (by simp), ← e5']; show μ5.2.1 c = _; rw [o5.2.2.2 c (by simp), ← e4']; show μ4.2.1 c = _; rw [o4.2.2.2 c (by simp), ← e3']; show μ3.2.1 c = _; rw [o3.2.2.2 c (by simp), ← e2']; show μ2.2.1 c = _; rw [o2.2.2.2 c (by simp)]
    obtain ⟨μ9, e9⟩ : ∃ m, (wI (wI μ6 (d + 8) (T 0 2) v6) d 2 (((wI μ6 (d + 8) (T 0 2) v6).1 d 2) + 1)) = m := ⟨_, rfl⟩
    have s2 : μ9.1 d 2 = nI (T 0 2 + 1) := by rw [← e9, wI_at, wI_ne (by omega), rr d hd70 (by omega), c0.1.2.2.1, nI_inc]
    have sd : ∀ f, f ≠ 2 → μ9.1 d f = μ0.1 d f := fun f hf => by rw [← e9, wI_off' hf, wI_ne (by omega), rr d hd70 (by omega)]
    have sc : ∀ c, 70 ≤ c → c ≠ d → c ≠ d + 8 → μ9.1 c = μ6.1 c := fun c _ h1 h2 => by rw [← e9, wI_ne h1, wI_ne h2]
    have s8 : μ9.1 (d + 8) = upd (μ0.1 (d + 8)) (T 0 2) (nI E) := by rw [← e9, wI_ne (by omega), wI_eq, rr (d + 8) (by omega) (by omega), w6]
    have sl : ∀ c, μ9.2.1 c = μ1.2.1 c := fun c => by rw [← e9]; exact rl c
    rw [e9] at ow ⊢
    obtain ⟨b1, b2, b3, b4, b5, b6⟩ := c0
    refine ⟨okC_off k6 ow (by simp; omega) (by simp; omega), ⟨?_, ?_, s2, ?_, ?_, ?_, ?_, ?_⟩, ?_, ?_, ?_, ⟨⟨?_, ?_, okN_app N 0 b5.1.2.2.1 (Or.inl rfl), fun x hx => ?_⟩, ?_, ?_, fun j n hj => ?_, fun j n hj => ?_⟩, ?_⟩
    · rw [sd 0 (by decide)]; exact b1.1
    · rw [sd 1 (by decide)]; exact b1.2.1
    · rw [sd 7 (by decide)]; exact b1.2.2.2.1
    · rw [sd 16 (by decide)]; exact b1.2.2.2.2.1
    · rw [sd 17 (by decide)]; exact b1.2.2.2.2.2.1
    · rw [sd 18 (by decide)]; exact b1.2.2.2.2.2.2.1
    · rw [sd 19 (by decide)]; exact b1.2.2.2.2.2.2.2
    · intro k hk'; rw [sc (d + 1) (by omega) (by omega) (by omega), sc (d + 2) (by omega) (by omega) (by omega), sc (d + 3) (by omega) (by omega) (by omega), rr (d + 1) (by omega) (by omega), rr (d + 2) (by omega) (by omega), rr (d + 3) (by omega) (by omega)]; exact b2 k hk'
    · unfold dCF at b3 ⊢; rw [sd 6 (by decide)]; exact b3
    · intro k hk'
      have hk' : k < T 0 2 + 1 := hk'
      rw [sc (d + 4) (by omega) (by omega) (by omega), sc (d + 5) (by omega) (by omega) (by omega), sc (d + 6) (by omega) (by omega) (by omega), sc (d + 7) (by omega) (by omega) (by omega), s8, r4, r5, r6, r7]
      by_cases ek : k = T 0 2
      · subst ek
        rw [upd_at, upd_at, upd_at, upd_at, upd_at]
        have z1 : ghT T A B Kd C E 5 (T 0 2) = A := by simp [ghT, sT1]
        have z2 : ghT T A B Kd C E 6 (T 0 2) = B := by simp [ghT, sT1]
        have z3 : ghT T A B Kd C E 7 (T 0 2) = Kd := by simp [ghT, sT1]
        have z4 : ghT T A B Kd C E 8 (T 0 2) = C := by simp [ghT, sT1]
        have z5 : ghT T A B Kd C E 9 (T 0 2) = E := by simp [ghT, sT1]
        show nI A = nI (ghT T A B Kd C E 5 (T 0 2)) ∧ nI B = nI (ghT T A B Kd C E 6 (T 0 2)) ∧ nI Kd = nI (ghT T A B Kd C E 7 (T 0 2)) ∧ nI C = nI (ghT T A B Kd C E 8 (T 0 2)) ∧ nI E = nI (ghT T A B Kd C E 9 (T 0 2))
        rw [z1, z2, z3, z4, z5]; exact ⟨rfl, rfl, rfl, rfl, rfl⟩
      · have z : ∀ x, 1 ≤ x → ghT T A B Kd C E x k = T x k := fun x hx => by
          have hx0 : x ≠ 0 := by omega
          simp [ghT, sT1, ek, hx0]
        rw [upd_ne ek, upd_ne ek, upd_ne ek, upd_ne ek, upd_ne ek]
        show _ = nI (ghT T A B Kd C E 5 k) ∧ _ = nI (ghT T A B Kd C E 6 k) ∧ _ = nI (ghT T A B Kd C E 7 k) ∧ _ = nI (ghT T A B Kd C E 8 k) ∧ _ = nI (ghT T A B Kd C E 9 k)
        rw [z 5 (by decide), z 6 (by decide), z 7 (by decide), z 8 (by decide), z 9 (by decide)]
        exact b4 k (by omega)
    · rw [plN_g]; exact b5.1.1
    · rw [ghN_g, List.length_append]; show (ghN N).length + 1 ≤ 7; omega
    · rcases List.mem_append.mp hx with z | z
      · exact b5.1.2.2.2 x z
      · rw [List.mem_singleton] at z; rw [z]; exact nm_ok hkd
    · rw [sd 0 (by decide), plN_g]; exact b5.2.1
    · rw [s2, ghN_g, List.length_append, n3]; rfl
    · rw [plN_g] at hj
      rw [sl, o1.2.2.2 9 (by simp)]; exact b5.2.2.2.1 j n hj
    · rw [ghN_g] at hj
      rw [sl]
      by_cases ej : j = T 0 2
      · subst ej
        rw [List.getElem?_append_right (by omega), n3] at hj
        simp at hj
        rw [← hj]; exact gn
      · have hl : j < (ghN N).length := by
          have := (List.getElem?_eq_some_iff.mp hj).1
          simp at this; omega
        rw [List.getElem?_append_left hl] at hj
        rw [e1 j ej]; exact b5.2.2.2.2 j n hj
    · exact dCL_c b6 (fun c h1 h2 => ⟨by rw [sc c (by omega) (by omega) (by omega), rr c (by omega) (by omega)], by rw [sl, o1.2.2.2 c (by simp; omega)]⟩)
end ClG
