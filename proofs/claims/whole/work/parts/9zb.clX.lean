/-! THE CLASS: read -/
theorem cL_sz {vs : Nat → Bool} : ∀ (L : sLaw) (o : Nat), (cL vs L o).length ≤ szL L := by
  intro L
  induction L with
  | nil => intro o; exact Nat.zero_le _
  | cons br L ih =>
    intro o
    obtain ⟨t, w⟩ := br
    cases t with
    | none =>
      have : szL ((none, w) :: L) = (w.length + 1) + szL L := by unfold szL; simp [szB]
      rw [this]
      show (cE vs w ++ [(7, 0)]).length ≤ _
      rw [List.length_append, cE_len]
      show w.length + 1 ≤ _
      omega
    | some uv =>
      obtain ⟨u, v⟩ := uv
      have : szL ((some (u, v), w) :: L) = (u.length + v.length + w.length + 2) + szL L := by unfold szL; simp [szB]
      rw [this]
      have h := ih (o + u.length + v.length + w.length + 2)
      show ((cE vs u ++ cE vs v) ++ ((6, o + u.length + v.length + w.length + 2) :: (cE vs w ++ ((7, 0) :: cL vs L (o + u.length + v.length + w.length + 2))))).length ≤ _
      simp only [List.length_append, List.length_cons, cE_len]
      omega
theorem dC_tx {d : Nat} {T : sT} {Lw : Nat → sLaw} {N : nL} {μ : jM} (h70 : d = 70 ∨ d = 91) (hc : dC d T Lw N μ) (hV : vT T Lw) (hL : ∀ q, lOK (Lw q) ∧ szL (Lw q) ≤ 400) : txC μ d T Lw ∧ kcI μ d T Lw := by
  obtain ⟨a1, a2, a3, a4, -, a6⟩ := hc
  have h12 := hV.1.2.1
  refine ⟨⟨h70, a1, fun k hk => ⟨(a2 k hk).1, (a2 k hk).2.1, (a2 k hk).2.2, ?_⟩, a4, fun q hq => ⟨⟨(a6 q hq).1.1, Nat.le_trans (cL_sz _ _) (hL q).2, (a6 q hq).1.2.1⟩, (a6 q hq).1.2.2.1, (hL q).1.2⟩, hV⟩, fun q hq i hi => Or.inl ((a6 q hq).2 i hi)⟩
  rw [sh1 (by omega), a3.1 k hk]
  have := (hV.2.1 k hk).2.2.2.2.2
  have e : T 4 k = 0 ∨ T 4 k = 1 := by omega
  rcases e with e | e <;> rw [e] <;> rfl
theorem hiC_wP {μ : jM} {c f x : Nat} (hc : c < 112) (hx : x < 112) : hiC μ (wP μ c f (some x)) := by
  refine ⟨fun c' h1 _ => ⟨rfl, rfl, wP_n (by omega)⟩, fun c' f' y hy => ?_, rfl, fun _ _ => rfl⟩
  by_cases e : c' = c
  · subst e
    by_cases e2 : f' = f
    · subst e2; rw [wP_at] at hy; cases hy; exact Or.inr hx
    · rw [wP_o e2] at hy; exact Or.inl hy
  · rw [wP_n e] at hy; exact Or.inl hy
theorem rdC.hi {d : Nat} {μ μ' : jM} (h : rdC d μ μ') (h70 : d = 70 ∨ d = 91) : hiC μ μ' := by
  refine ⟨fun c h1 _ => ⟨h.2.2.1 c (by omega) (by omega) (by omega) (by omega) (by omega), h.2.2.2.2 c (by omega) (by omega) (by omega) (by omega), by funext f; exact h.1 c f (by omega)⟩, fun c f x hx => ?_, h.2.2.2.2 8 (by decide) (by decide) (by decide) (by omega), fun c hc => ?_⟩
  · by_cases e : c = 3 ∧ f = 7
    · rw [e.1, e.2, h.2.1] at hx; cases hx; exact Or.inr (by omega)
    · rw [h.1 c f e] at hx; exact Or.inl hx
  · by_cases e : d ≤ c ∧ c ≤ d + 20
    · have : c = lw d 0 ∨ c = lw d 1 ∨ c = lw d 2 := by unfold kxI at hc; unfold lw; omega
      rcases this with rfl | rfl | rfl
      · exact h.2.2.2.1 0 (by decide) 3 (by decide)
      · exact h.2.2.2.1 1 (by decide) 3 (by decide)
      · exact h.2.2.2.1 2 (by decide) 3 (by decide)
    · unfold kxI at hc
      rw [h.2.2.1 c (by omega) (by omega) (by omega) (by omega) e]
theorem cOff.hiC {PI : Nat → Prop} {μ μ' : jM} (h : cOff PI (fun _ => False) μ μ') (hi : ∀ c, PI c → c < 70) : hiC μ μ' := h.o5.hi (fun c hc => by have := hi c hc; unfold kxI; omega) (fun c hc => hc.elim)
/-- what stands between calls, moved -/
theorem peI_mv {G : jG} {t : Nat} {T : sT} {Lw : Nat → sLaw} {μ μ' : jM} (hp : peI G μ t T Lw) (ht : tO gTold pTold G μ' t) (q0 : μ'.2.2 12 0 = some t) (hi : ∀ c, (12 ≤ c ∧ c ≤ 51) ∨ (t ≤ c ∧ c ≤ t + 20) → μ'.1 c = μ.1 c ∧ μ'.2.1 c = μ.2.1 c) : peI G μ' t T Lw := by
  obtain ⟨-, -, hx, hk, hb, hw⟩ := hp
  have ht2 := hx.1
  have h7 := hx.2.2.2.2.2.1.2.2.1
  have o : cOff (fun c => ¬ ((12 ≤ c ∧ c ≤ 51) ∨ (t ≤ c ∧ c ≤ t + 20))) (fun c => ¬ ((12 ≤ c ∧ c ≤ 51) ∨ (t ≤ c ∧ c ≤ t + 20))) (μ.1, μ.2.1, μ'.2.2) μ' := ⟨rfl, fun c h => (hi c (Classical.not_not.mp h)).1, fun c h => (hi c (Classical.not_not.mp h)).2⟩
  have hc : ∀ c, 12 ≤ c → c < 52 → μ'.1 c = μ.1 c := fun c h1 h2 => (hi c (Or.inl ⟨h1, by omega⟩)).1
  refine ⟨ht, q0, txC_off o (show txC (μ.1, μ.2.1, μ'.2.2) t T Lw from hx) (fun c h1 h2 h3 => absurd (Or.inr ⟨h1, h2⟩) h3) (fun c h1 h2 h3 => absurd (Or.inr ⟨h1, h2⟩) h3), kcI_off o (show kcI (μ.1, μ.2.1, μ'.2.2) t T Lw from hk) (fun c h => by omega) (fun c h => by omega), ?_, fun a ha => ?_⟩
  · unfold brP at hb ⊢; rw [hc 14 (by omega) (by omega), (hi 12 (by omega)).2]; exact hb
  · exact wyK_mem (hc _ (by omega) (by omega)) (hc _ (by omega) (by omega)) (by rw [hc _ (by omega) (by omega)]) (by rw [hc _ (by omega) (by omega)]) (by rw [hc _ (by omega) (by omega)]) (by rw [hc _ (by omega) (by omega)]) (hw a ha)
theorem tT_mv {G : jG} {t : Nat} {μ μ' : jM} (ht : tO gTold pTold G μ t) (h : ∀ c f, 70 ≤ c → μ'.2.2 c f = μ.2.2 c f) (h70 : t = 70 ∨ t = 91) : tO gTold pTold G μ' t := ⟨ht.1, fun a f x hx => by rw [h (t + a) f (by omega)]; exact ht.2 a f x hx⟩
/-- a text that was not taken -/
theorem cJ_bad {G : jG} {a : aS} {B t d : Nat} {μ μ1 : jM} {p : Int32} (hc : cJ G a B t d μ) (hr : rdC d μ μ1) : cJ G (([], p), a.2) B t d (wI (wI μ1 0 8 p) 1 1 0) ∧ hiC μ (wI (wI μ1 0 8 p) 1 1 0) := by
  obtain ⟨h1, ⟨hd, hdt, hd7, hdo⟩, h3, h4, h5, h6, h7, h8, h9, h10⟩ := hc
  have ht2 := h1.1.2.2.1.1
  obtain ⟨μ2, e2⟩ : ∃ m, wI (wI μ1 0 8 p) 1 1 0 = m := ⟨_, rfl⟩
  have o2 : cOff (fun c => c = 0 ∨ c = 1) (fun _ => False) μ1 μ2 := by rw [← e2]; exact (cOff_wI (Or.inl rfl)).trans (cOff_wI (Or.inr rfl))
  have z1 : μ2.1 1 1 = 0 := by rw [← e2, wI_at]
  have z0 : μ2.1 0 8 = p := by rw [← e2, wI_ne (by decide), wI_at]
  have ec : ∀ c, 12 ≤ c → ¬ (d ≤ c ∧ c ≤ d + 20) → μ2.1 c = μ.1 c := fun c h h' => by rw [o2.2.1 c (by omega), hr.2.2.1 c (by omega) (by omega) (by omega) (by omega) h']
  have el : ∀ c, 12 ≤ c → ¬ (d ≤ c ∧ c ≤ d + 20) → μ2.2.1 c = μ.2.1 c := fun c h h' => by rw [o2.2.2 c (fun z => z), hr.2.2.2.2 c (by omega) (by omega) (by omega) h']
  have er : ∀ c f, ¬ (c = 3 ∧ f = 7) → μ2.2.2 c f = μ.2.2 c f := fun c f h => by rw [o2.1]; exact hr.1 c f h
  rw [e2]
  refine ⟨⟨⟨peI_mv h1.1 (tT_mv h1.1.1 (fun c f h => er c f (by omega)) ht2) (by rw [er 12 0 (by decide)]; exact h1.1.2.1) (fun c h => ⟨ec c (by omega) (by omega), el c (by omega) (by omega)⟩), by rw [ec 53 (by omega) (by omega)]; exact h1.2.1, h1.2.2.1, by rw [ec 59 (by omega) (by omega)]; exact h1.2.2.2⟩, ⟨hd, hdt, by rw [er 0 7 (by decide)]; exact hd7, tT_mv hdo (fun c f h => er c f (by omega)) hd⟩, ⟨z1, Nat.zero_le _, fun i b h => by cases h⟩, z0, ?_, ?_, ?_, ?_, by rw [ec 65 (by omega) (by omega)]; exact h9, ?_⟩, (hr.hi hd).trans (o2.hiC (fun c hc => by omega))⟩
  · show histC μ2 (gT a) (gH a)
    unfold histC at h5 ⊢; rw [ec 54 (by omega) (by omega), ec 55 (by omega) (by omega)]; exact h5
  · show slotC μ2 (gT a) (gHs a) (gSl a)
    unfold slotC at h6 ⊢; rw [ec 54 (by omega) (by omega), ec 56 (by omega) (by omega)]; exact h6
  · show dreamC μ2 (gD a)
    unfold dreamC at h7 ⊢; rw [ec 63 (by omega) (by omega), ec 66 (by omega) (by omega), ec 67 (by omega) (by omega), ec 68 (by omega) (by omega)]; exact h7
  · show lrC G μ2 (gT a) (gL a)
    unfold lrC at h8 ⊢
    rw [er 63 7 (by decide), er 63 8 (by decide), ec 63 (by omega) (by omega)]
    rcases h8 with h | ⟨so, wr, m, e1, e2, e3, e4, e5, e6, e7, e8, e9, e10, e11⟩
    · exact Or.inl h
    · exact Or.inr ⟨so, wr, m, e1, e2, e3, e4, e5, e6, e7, e8, e9, by rw [ec so (by omega) (by omega)]; exact e10, by rw [ec wr (by omega) (by omega)]; exact e11⟩
  · show anI μ2 (gT a) (gL a) (gS a)
    unfold anI at h10 ⊢; rw [ec 57 (by omega) (by omega), ec 60 (by omega) (by omega), ec 61 (by omega) (by omega)]; exact h10
theorem cN_bg {T : sT} : cRow (sBg T) 1 (nI (T 0 7)) (thN T) = cN T (sBg T) := by
  unfold cN
  have : sBg T 65 = 1 := by unfold sBg; rw [upd_at]
  rw [this]
section ClX
variable {l : Launch} {G : jG}
theorem c_X3_clear (hG : gGG G) {μ : jM} (hP : gPP μ) : jC0 l mX3_clear 0 G [.ref 54] μ (pV fun μ' => μ' = wI (wI μ 54 0 0) 54 1 0) := by
  refine jC0.of' (ls := [.ref 54]) rfl rfl rfl (fun _ _ => Nat.le_of_ble_eq_true rfl) ?_
  exact b_X3_clear_0 hG hP rfl
theorem c_X0_clear (hG : gGG G) {μ : jM} (hP : gPP μ) : jC0 l mX0_clear 0 G [.ref 63] μ (pV fun μ' => μ' = wI (wI μ 63 0 0) 63 6 0) := by
  refine jC0.of' (ls := [.ref 63]) rfl rfl rfl (fun _ _ => Nat.le_of_ble_eq_true rfl) ?_
  exact b_X0_clear_0 hG hP rfl
theorem c_X11_read (hG : gGG G) {μ : jM} (hP : gPP μ) {a : aS} {B t d : Nat} (hc : cJ G a B t d μ) (hk : kwC μ) (hv : ∀ q, q < 3 → vsK μ (lw d q) (vsQ q)) : jC0 l mX11_read 7 G [.ref 0] μ (pI fun z μ' => z = (dRead a).1 ∧ cI G (dRead a).2 B μ' ∧ gPP μ' ∧ hiC μ μ') := by
  refine jC0.of' (ls := [.ref 0, .null, .null]) rfl rfl rfl (fun _ _ => Nat.le_of_ble_eq_true rfl) ?_
  obtain ⟨h1, ⟨hd, hdt, hd7, hdo⟩, h3, h4, h5, h6, h7, h8, h9, h10⟩ := id hc
  have ht2 := h1.1.2.2.1.1
  refine b_X11_read_0 hG hP hdo hd7 (c_X4_readInto hG hP hd hdo hv h3 hk) (fun v μ1 hh => ?_)
  obtain ⟨hR, r1⟩ := hh
  have P1 := r1.gPP hP
  have D1 := r1.tT (by omega) hdo
  have T1 := r1.tT (by omega) h1.1.1
  have q7 : μ1.2.2 0 7 = some d := by rw [r1.1 0 7 (by decide)]; exact hd7
  have q12 : μ1.2.2 12 0 = some t := by rw [r1.1 12 0 (by decide)]; exact h1.1.2.1
  have bad : ∀ (p : Int32), μ1.1 3 0 = p → dRead a = (v, (([], p), a.2)) → ¬ v = 0 → J l mX11_read (jZ0 7 G (pI fun z μ' => z = (dRead a).1 ∧ cI G (dRead a).2 B μ' ∧ gPP μ' ∧ hiC μ μ')) G 0 0 15 [.ref 0, .null, .null] [.int v] μ1 := by
    intro p hp he hv0
    obtain ⟨c2, i2⟩ := cJ_bad (p := p) hc r1
    refine b_X11_read_15 (ψ1 := fun _ => True) hG P1 D1 T1 q7 q12 (fun _ => ?_) (fun z => absurd z hv0) (fun z => absurd z hv0)
    rw [hp, he]
    exact ⟨rfl, ⟨t, d, c2⟩, gPP_of rfl P1, i2⟩
  cases e : rdS (gY a) with
  | error f =>
    rw [e] at hR
    obtain ⟨v1, p1, f1⟩ : v = nI f.1 ∧ μ1.1 3 0 = nI f.2 ∧ (f.1 = 1 ∨ f.1 = 2) := hR
    refine bad (nI f.2) p1 (by unfold dRead; rw [e, v1]) (fun z => ?_)
    rw [v1] at z
    rcases f1 with q | q <;> rw [q] at z <;> exact absurd z (by decide)
  | ok s =>
    rw [e] at hR
    obtain ⟨v1, p1, d1⟩ : v = nI s.2.1.1 ∧ μ1.1 3 0 = (if s.2.1.1 = 0 then -1 else nI s.2.1.2) ∧ dC d s.2.2.1 s.2.2.2.1 s.2.2.2.2 μ1 := hR
    have pk := rdL_ok 401 _ s pOK_0 e
    obtain ⟨-, hw5, -, -, hL, hvt⟩ := pk
    have hw5 := hw5.1
    by_cases w0 : s.2.1.1 = 0
    · have hdr : dRead a = (0, (([], -1), (s.2.2.1, s.2.2.2.1), (sBg s.2.2.1, []), ((fun _ => false), gSl a), [])) := by unfold dRead; rw [e]; simp only; rw [if_pos w0]
      rw [w0] at v1
      rw [if_pos w0] at p1
      have hV := hvt w0
      obtain ⟨x1, k1⟩ := dC_tx hd d1 hV hL
      rw [hdr]
      obtain ⟨T, hT⟩ : ∃ T, s.2.2.1 = T := ⟨_, rfl⟩
      obtain ⟨Lw, hLw⟩ : ∃ Lw, s.2.2.2.1 = Lw := ⟨_, rfl⟩
      rw [hT, hLw] at x1 k1 hV ⊢
      have v0 : v = 0 := v1
      obtain ⟨μ2, e2⟩ : ∃ m, wI (wI μ1 0 8 (μ1.1 3 0)) 1 1 0 = m := ⟨_, rfl⟩
      have o2 : cOff (fun c => c = 0 ∨ c = 1) (fun _ => False) μ1 μ2 := by rw [← e2]; exact (cOff_wI (Or.inl rfl)).trans (cOff_wI (Or.inr rfl))
      have z1 : μ2.1 1 1 = 0 := by rw [← e2, wI_at]
      have z0 : μ2.1 0 8 = -1 := by rw [← e2, wI_ne (by decide), wI_at, p1]
      have P2 := o2.gPP P1
      have x2 := txC_off o2 x1 (fun c h _ z => by omega) (fun c _ _ z => z.elim)
      have k2 := kcI_off o2 k1 (fun c h => by omega) (fun c h => h.elim)
      refine b_X11_read_15 hG P1 D1 T1 q7 q12 (fun z => absurd v0 z) (fun _ => by rw [e2]; exact c_X10_begin hG P2 hd (o2.tO D1) x2 k2) (fun _ μ3 h3 => ?_)
      obtain ⟨p3, o3⟩ := h3
      have i3 : hiC μ μ3 := (((r1.hi hd).trans (o2.hiC (fun c hc => by omega))).trans (hiC_wP (μ := μ2) (c := 12) (f := 0) (x := d) (by decide) (by omega))).trans (o3.o5.hi (fun c hc => by obtain ⟨b, hb, hc⟩ := hc; unfold kxI; omega) (fun c hc => by omega))
      have P3 := o3.gPP (gPP_wP rfl P2)
      have er3 : ∀ c f, ¬ (c = 3 ∧ f = 7) → c ≠ 12 → μ3.2.2 c f = μ.2.2 c f := fun c f h h' => by rw [o3.1, wP_n h', o2.1]; exact r1.1 c f h
      have ec3 : ∀ c, 52 ≤ c → ¬ (d ≤ c ∧ c ≤ d + 20) → μ3.1 c = μ.1 c := fun c h h' => by
        rw [o3.2.1 c (by rintro ⟨b, hb, hc⟩; omega)]
        show μ2.1 c = _
        rw [o2.2.1 c (by omega), r1.2.2.1 c (by omega) (by omega) (by omega) (by omega) h']
      have D3 : tO gTold pTold G μ3 d := tT_mv hdo (fun c f h => er3 c f (by omega) (by omega)) hd
      have T3 : tO gTold pTold G μ3 t := tT_mv h1.1.1 (fun c f h => er3 c f (by omega) (by omega)) ht2
      have q73 : μ3.2.2 0 7 = some d := by rw [er3 0 7 (by decide) (by decide)]; exact hd7
      have z13 : μ3.1 1 1 = 0 := by rw [o3.2.1 1 (by rintro ⟨b, hb, hc⟩; omega)]; exact z1
      have z03 : μ3.1 0 8 = -1 := by rw [o3.2.1 0 (by rintro ⟨b, hb, hc⟩; omega)]; exact z0
      refine b_X11_read_58 hG P3 D3 T3 q73 (c_X5_begin (s := 52) hG P3 (Or.inl rfl) D3 p3.2.2.1 (fun i hi => ?_)) (fun μ4 h4 => ?_)
      · show μ3.1 53 i = 0
        rw [ec3 53 (by decide) (by omega), h1.2.1]
        unfold cRow
        rw [if_neg (by omega), if_neg (by omega), if_neg (by omega), if_neg (by omega), if_neg (by omega), if_neg (by omega), if_neg (by omega), if_neg (by omega)]
      have h4' : μ4 = sI μ3 53 (cN T (sBg T)) := by rw [h4, cN_bg]
      have o4 : cOff (fun c => c = 53) (fun _ => False) μ3 μ4 := by rw [h4']; exact ⟨rfl, fun c h => sI_ne h, fun _ _ => rfl⟩
      have P4 := o4.gPP P3
      have z53 : μ4.1 53 = cN T (sBg T) := by rw [h4', sI_eq]
      refine b_X11_read_69 hG P4 (o4.tO T3) ?_
      have P5 : gPP (wP μ4 0 7 (some t)) := gPP_wP rfl P4
      refine b_X11_read_74 hG P5 (c_X3_clear hG P5) ?_
      rintro μ6 e6
      have o6 : cOff (fun c => c = 54) (fun _ => False) (wP μ4 0 7 (some t)) μ6 := by rw [e6]; exact (cOff_wI (PI := fun c => c = 54) rfl).trans (cOff_wI (PI := fun c => c = 54) rfl)
      have P6 := o6.gPP P5
      refine b_X11_read_81 hG P6 (c_X0_clear hG P6) ?_
      rintro μ7 e7
      have o7 : cOff (fun c => c = 63) (fun _ => False) μ6 μ7 := by rw [e7]; exact (cOff_wI (PI := fun c => c = 63) rfl).trans (cOff_wI (PI := fun c => c = 63) rfl)
      have P7 := o7.gPP P6
      refine b_X11_read_88 hG P7 (c_X1_outdate hG P7) ?_
      rintro μ8 e8
      have o8 : cOff (fun c => c = 57) (fun _ => False) μ7 μ8 := by rw [e8]; exact cOff_wI rfl
      have P8 := o8.gPP P7
      refine b_X11_read_95 hG P8 ⟨v0, ⟨d, t, ?_⟩, P8, ?_⟩
      · have er : ∀ c f, ¬ (c = 3 ∧ f = 7) → c ≠ 12 → c ≠ 0 → μ8.2.2 c f = μ.2.2 c f := fun c f h h' h'' => by rw [o8.1, o7.1, o6.1, wP_n h'', o4.1]; exact er3 c f h h'
        have er0 : ∀ c f, c ≠ 0 → μ8.2.2 c f = μ3.2.2 c f := fun c f h'' => by rw [o8.1, o7.1, o6.1, wP_n h'', o4.1]
        have e07 : μ8.2.2 0 7 = some t := by rw [o8.1, o7.1, o6.1, wP_at]
        have e3 : ∀ c, c ≠ 53 → c ≠ 54 → c ≠ 57 → c ≠ 63 → μ8.1 c = μ3.1 c := fun c a1 a2 a3 a4 => by
          rw [o8.2.1 c a3, o7.2.1 c a4, o6.2.1 c a2]
          show μ4.1 c = _
          rw [o4.2.1 c a1]
        have l3 : ∀ c, μ8.2.1 c = μ3.2.1 c := fun c => by
          rw [o8.2.2 c (fun z => z), o7.2.2 c (fun z => z), o6.2.2 c (fun z => z)]
          show μ4.2.1 c = _
          rw [o4.2.2 c (fun z => z)]
        have z538 : μ8.1 53 = cN T (sBg T) := by
          rw [o8.2.1 53 (by decide), o7.2.1 53 (by decide), o6.2.1 53 (by decide)]
          exact z53
        have z540 : μ8.1 54 0 = 0 ∧ μ8.1 54 1 = 0 ∧ μ8.1 54 4 = μ.1 54 4 := by
          rw [o8.2.1 54 (by decide), o7.2.1 54 (by decide), e6]
          refine ⟨by rw [wI_off' (by decide), wI_at], wI_at, ?_⟩
          rw [wI_off' (by decide), wI_off' (by decide)]
          show μ4.1 54 4 = _
          rw [o4.2.1 54 (by decide), ec3 54 (by decide) (by omega)]
        have z630 : μ8.1 63 0 = 0 ∧ μ8.1 63 6 = 0 := by
          rw [o8.2.1 63 (by decide), e7]
          exact ⟨by rw [wI_off' (by decide), wI_at], wI_at⟩
        have z57 : μ8.1 57 2 = -1 := by rw [e8, wI_at]
        refine ⟨⟨peI_mv p3 (tT_mv D3 (fun c f h => er0 c f (by omega)) hd) (by rw [er0 12 0 (by decide)]; exact p3.2.1) (fun c h => ⟨e3 c (by omega) (by omega) (by omega) (by omega), l3 c⟩), z538, ⟨rg_bg.mono (Nat.zero_le _), h1.2.2.1.2.1, bg_rt (T := T)⟩, by rw [e3 59 (by decide) (by decide) (by decide) (by decide), ec3 59 (by decide) (by omega)]; exact h1.2.2.2⟩, ⟨ht2, fun z => hdt z.symm, e07, tT_mv T3 (fun c f h => er0 c f (by omega)) ht2⟩, ⟨by rw [e3 1 (by decide) (by decide) (by decide) (by decide)]; exact z13, Nat.zero_le _, fun i b h => by cases h⟩, by rw [e3 0 (by decide) (by decide) (by decide) (by decide)]; exact z03, ?_, ⟨z540.2.1, fun s _ h => by cases h⟩, ⟨z630.1, Nat.zero_le _, fun i b h => by cases h⟩, ?_, by rw [e3 65 (by decide) (by decide) (by decide) (by decide), ec3 65 (by decide) (by omega)]; exact h9, anI_out z57⟩
        · obtain ⟨n, hn, hn4, -⟩ := h5
          exact ⟨n, hn, by rw [z540.2.2]; exact hn4, z540.1, Nat.zero_le _, fun j R h => by cases h⟩
        · unfold lrC at h8 ⊢
          rw [er 63 7 (by decide) (by decide) (by decide), er 63 8 (by decide) (by decide) (by decide)]
          rcases h8 with h | ⟨so, wr, m, e1, e2, e3, e4, e5, e6, e7, e8, e9, e10, e11⟩
          · exact Or.inl ⟨h.1, h.2.1, z630.2⟩
          · exact Or.inr ⟨so, wr, 0, e1, e2, e3, e4, e5, e6, e7, by decide, z630.2, fun n hn => absurd hn (by omega), fun hn => absurd hn (by decide)⟩
      · exact ((((i3.trans (o4.hiC (fun c hc => by omega))).trans (hiC_wP (μ := μ4) (c := 0) (f := 7) (x := t) (by decide) (by omega))).trans (o6.hiC (fun c hc => by omega))).trans (o7.hiC (fun c hc => by omega))).trans (o8.hiC (fun c hc => by omega))
    · have hv0 : ¬ v = 0 := by
        rw [v1]; exact fun z => w0 ((nI_eq (b := 0) (by omega) (by decide)).mp z)
      rw [if_neg w0] at p1
      exact bad _ p1 (by unfold dRead; rw [e]; simp only; rw [if_neg w0, v1]) hv0
end ClX
