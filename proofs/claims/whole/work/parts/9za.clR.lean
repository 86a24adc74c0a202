/-! THE CLASS reads: a whole text into the draft -/
def rdR (d : Nat) (x : Except pF pS) (v : Int32) (μ : jM) : Prop := pR x (fun s μ => v = nI s.2.1.1 ∧ μ.1 3 0 = (if s.2.1.1 = 0 then -1 else nI s.2.1.2) ∧ dC d s.2.2.1 s.2.2.2.1 s.2.2.2.2 μ) (fun e μ => v = nI e.1 ∧ μ.1 3 0 = nI e.2 ∧ (e.1 = 1 ∨ e.1 = 2)) μ
theorem rdC.gPP {d : Nat} {μ μ' : jM} (h : rdC d μ μ') (hP : gPP μ) : gPP μ' := fun a f x hx => by
  rw [h.1 a f (fun z => by rw [z.1, z.2, show gP 3 7 = none from by decide] at hx; cases hx)]; exact hP a f x hx
theorem rdC.tT {d : Nat} {μ μ' : jM} (h : rdC d μ μ') {G : jG} {t : Nat} (h3 : 3 < t) (ht : tO gTold pTold G μ t) : tO gTold pTold G μ' t := ⟨ht.1, fun a f x hx => by rw [h.1 (t + a) f (fun z => by omega)]; exact ht.2 a f x hx⟩
theorem rdC_3 {d : Nat} {F : List Nat} {μ μ' : jM} (h : cO3 [] F [] μ μ') (hd : 70 ≤ d) (h7 : μ.2.2 3 7 = some d) : rdC d μ μ' := ⟨fun c f _ => by rw [h.1], by rw [h.1]; exact h7, fun c a _ _ _ _ => h.2.1 c a (by simp), fun q _ f _ => by rw [h.2.1 (lw d q) (by unfold lw; omega) (by simp)], fun c _ _ _ _ => h.2.2.2 c (by simp)⟩
theorem rdC.trans {d : Nat} {μ μ1 μ2 : jM} (h1 : rdC d μ μ1) (h2 : rdC d μ1 μ2) : rdC d μ μ2 := ⟨fun c f a => (h2.1 c f a).trans (h1.1 c f a), h2.2.1, fun c a b e f g => (h2.2.2.1 c a b e f g).trans (h1.2.2.1 c a b e f g), fun q a f b => (h2.2.2.2.1 q a f b).trans (h1.2.2.2.1 q a f b), fun c a b e f => (h2.2.2.2.2 c a b e f).trans (h1.2.2.2.2 c a b e f)⟩
theorem rdC_sc {d : Nat} {μ μ' : jM} (h : cOff (fun c => c = 5 ∨ c = 6) (fun c => c = 7) μ μ') (hd : 70 ≤ d) (h7 : μ.2.2 3 7 = some d) : rdC d μ μ' := ⟨fun c f _ => by rw [h.1], by rw [h.1]; exact h7, fun c _ a b _ _ => h.2.1 c (by omega), fun q _ f _ => by rw [h.2.1 (lw d q) (by unfold lw; omega)], fun c a _ _ _ => h.2.2 c a⟩
theorem w_no0 {Y : List Int32} {t : Nat} {w : Nat × Nat} {μ : jM} (h : okC Y t w μ) : μ.1 3 11 = 0 ↔ w.1 = 0 := by
  have h5 := h.2.2.1.1
  rw [h.2.2.2.2.2.1]; exact nI_eq (b := 0) (by omega) (by decide)
section ClR
variable {l : Launch} {G : jG} {Y : List Int32} {d : Nat}
theorem ri_loop (hG : gGG G) (h70 : d = 70 ∨ d = 91) {φ : Int32 → jM → Prop} {μ0 : jM} : ∀ (n i : Nat) (s : pS) (μ : jM), 401 ≤ n + s.1 → 2 * i ≤ s.1 → gPP μ → tO gTold pTold G μ d → okC Y s.1 s.2.1 μ → dC d s.2.2.1 s.2.2.2.1 s.2.2.2.2 μ → pOK' Y s → rdC d μ0 μ →
    (∀ v μ', rdR d (rdL Y n s) v μ' → rdC d μ0 μ' → φ v μ') → J l mX4_readInto (jZ0 6 G (pI φ)) G 0 0 37 [.ref 3, .null, .null, .int (nI i)] [] μ := by
  intro n
  have hd70 : 70 ≤ d := by omega
  induction n with
  | zero => intro i s μ hn _ _ _ _ _ hp; have := hp.1.1; omega
  | succ n ih =>
    intro i s μ hn hi hP hd h hc hp hr K
    have ht4 := h.2.1.1
    have hi4 : ¬ (400 : Int32) ≤ nI i := nI_ge (b := 400) (by omega) (by decide)
    refine b_X4_readInto_37 hG hP (fun z => absurd z hi4) (fun z => absurd z hi4) (fun z => absurd z hi4) (fun _ => c_X4_kindHere hG hP h) (fun _ v1 μ1 h1 => ?_)
    obtain ⟨rfl, rfl⟩ := h1
    have kp := k_pos (kd Y s.1) kd_in kd_ok
    have o0 : ∀ x, cO3 [] [0] [] μ1 (wI μ1 3 0 x) := fun x => cO3_wF (by decide)
    by_cases hk : kd Y s.1 = 0
    · have hrd : rdL Y (n + 1) s = .ok s := by unfold rdL; rw [if_pos hk]
      rw [hrd] at K
      refine b_X4_readInto_48 (ψ3 := fun _ => True) hG hP (fun _ _ z => ?_) (fun _ _ z => ?_) (fun _ z => absurd (okC_9 h) z) (fun z => absurd (kp.mpr hk) z) (fun z => absurd (kp.mpr hk) z)
      · have w0 := (w_no0 h).mp z
        refine K _ _ ⟨?_, ?_, dC_3 hc (o0 _) hd70⟩ (hr.trans (rdC_3 (o0 _) hd70 hr.2.1))
        · rw [z, w0]; rfl
        · rw [if_pos w0]; exact wI_at
      · have w0 : s.2.1.1 ≠ 0 := fun q => z ((w_no0 h).mpr q)
        refine K _ _ ⟨h.2.2.2.2.2.1, ?_, dC_3 hc (o0 _) hd70⟩ (hr.trans (rdC_3 (o0 _) hd70 hr.2.1))
        rw [if_neg w0, wI_at]; exact h.2.2.2.2.2.2 w0
    · have hrd : rdL Y (n + 1) s = bd (tll Y s.1 s.2.1 s.2.2.1 s.2.2.2.1 s.2.2.2.2) fun s' => rdL Y n s' := by conv => lhs; unfold rdL; rw [if_neg hk]
      have nk : ¬ kC (kd Y s.1) ≤ 0 := fun z => hk (kp.mp z)
      refine b_X4_readInto_48 hG hP (fun z => absurd z nk) (fun z => absurd z nk) (fun z => absurd z nk) (fun _ => c_X4_readTelling hG hP h70 hd hr.2.1 h hc hp) (fun _ μ2 h2 => ?_)
      obtain ⟨h2, k2⟩ := h2
      have P2 := k2.gPP hP
      have D2 := k2.tO hd
      have r2 := rdC_cl hr k2
      refine b_X4_readInto_55 hG P2 ?_
      rw [nI_inc]
      cases e : tll Y s.1 s.2.1 s.2.2.1 s.2.2.2.1 s.2.2.2.2 with
      | error f =>
        have hb : cB f μ2 := pR_er h2 e
        have hi5 : ¬ (400 : Int32) ≤ nI (i + 1) := nI_ge (b := 400) (by omega) (by decide)
        rw [hrd, e] at K
        refine b_X4_readInto_37 hG P2 (fun z => absurd z hi5) (fun z => absurd z hi5) (fun z => absurd z hi5) (fun _ => d_X4_kindHere hG P2 hb) (fun _ v3 μ3 h3 => ?_)
        obtain ⟨rfl, rfl⟩ := h3
        have o3 : ∀ x, cO3 [] [0] [] μ3 (wI μ3 3 0 x) := fun x => cO3_wF (by decide)
        refine b_X4_readInto_48 (ψ3 := fun _ => True) hG P2 (fun _ z => absurd z (cB_9 hb)) (fun _ z => absurd z (cB_9 hb)) (fun _ _ => K _ _ ⟨hb.2.1, by rw [wI_at]; exact hb.2.2.1, hb.1⟩ (r2.trans (rdC_3 (o3 _) hd70 r2.2.1))) (fun z => absurd (by decide) z) (fun z => absurd (by decide) z)
      | ok s1 =>
        obtain ⟨q1, -⟩ := tll_ok hp e
        have q2 := tll_2 hp e
        obtain ⟨a1, a2⟩ := pR_ok h2 e
        rw [hrd, e] at K
        exact ih (i + 1) s1 μ2 (by omega) (by omega) P2 D2 a1 a2 q1 r2 K
theorem c_X4_readInto (hG : gGG G) {μ : jM} (hP : gPP μ) (h70 : d = 70 ∨ d = 91) (hd : tO gTold pTold G μ d) (hv : ∀ q, q < 3 → vsK μ (lw d q) (vsQ q)) (ht : tapeC μ Y) (hk : kwC μ) : jC0 l mX4_readInto 6 G [.ref 3, .ref d, .ref 1] μ (pI fun v μ' => rdR d (rdS Y) v μ' ∧ rdC d μ μ') := by
  refine jC0.of' (ls := [.ref 3, .ref d, .ref 1, .null]) rfl rfl rfl (fun _ _ => Nat.le_of_ble_eq_true rfl) ?_
  have hd70 : 70 ≤ d := by omega
  have r1 : rdC d μ (wP μ 3 7 (some d)) := by
    refine ⟨fun c f a => ?_, wP_at, fun _ _ _ _ _ _ => rfl, fun _ _ _ _ => rfl, fun _ _ _ _ _ => rfl⟩
    by_cases e : c = 3
    · subst e; exact wP_o (fun z => a ⟨rfl, z⟩)
    · rw [wP_n e]
  have P1 := r1.gPP hP
  have D1 := r1.tT (by omega) hd
  refine b_X4_readInto_0 hG hP hd ?_
  obtain ⟨μ1, e1⟩ : ∃ m, wP μ 3 7 (some d) = m := ⟨_, rfl⟩
  have i1 : μ1.1 = μ.1 ∧ μ1.2.1 = μ.2.1 := by rw [← e1]; exact ⟨rfl, rfl⟩
  rw [e1] at r1 P1 D1 ⊢
  refine b_X4_readInto_5 hG P1 D1 r1.2.1 (c_X8_clear hG P1 h70 D1 (fun q hq => by unfold vsK; rw [i1.1]; exact hv q hq)) (fun μ2 h2 => ?_)
  obtain ⟨c2, k2⟩ := h2
  have r2 := rdC_cl r1 k2
  have P2 := k2.gPP P1
  have D2 := k2.tO D1
  have t2 : tapeC μ2 Y := by unfold tapeC at ht ⊢; rw [r2.2.2.1 1 (by decide) (by decide) (by decide) (by decide) (by omega), r2.2.2.1 2 (by decide) (by decide) (by decide) (by decide) (by omega)]; exact ht
  have w2 : kwC μ2 := by unfold kwC at hk ⊢; rw [r2.2.2.2.2 8 (by decide) (by decide) (by decide) (by omega)]; exact hk
  refine b_X4_readInto_12 hG P2 (c_X7_scan hG P2 t2 w2) (fun μ3 h3 => ?_)
  obtain ⟨lx, o3⟩ := h3
  have r3 := r2.trans (rdC_sc o3 hd70 r2.2.1)
  have P3 := r3.gPP hP
  have D3 := r3.tT (by omega) hd
  have c3 : dC d T0 dLaw [] μ3 := by
    obtain ⟨a1, a2, a3, a4, a5, a6⟩ := c2
    have hc : ∀ c, 70 ≤ c → μ3.1 c = μ2.1 c := fun c h => o3.2.1 c (by omega)
    have hl : ∀ c, c ≠ 7 → μ3.2.1 c = μ2.2.1 c := fun c h => o3.2.2 c h
    refine ⟨?_, ?_, ?_, ?_, ?_, dCL_c a6 (fun c h1 _ => ⟨hc c (by omega), hl c (by omega)⟩)⟩
    · unfold dCI at a1 ⊢; rw [hc d hd70]; exact a1
    · unfold dCR at a2 ⊢; rw [hc (d + 1) (by omega), hc (d + 2) (by omega), hc (d + 3) (by omega)]; exact a2
    · unfold dCF at a3 ⊢; rw [hc d hd70]; exact a3
    · unfold dCG at a4 ⊢; rw [hc (d + 4) (by omega), hc (d + 5) (by omega), hc (d + 6) (by omega), hc (d + 7) (by omega), hc (d + 8) (by omega)]; exact a4
    · unfold nmC at a5 ⊢; rw [hc d hd70, hl 9 (by decide), hl 10 (by decide)]; exact a5
  refine b_X4_readInto_20 hG P3 ?_
  obtain ⟨μ4, e4⟩ : ∃ m, wI (wI (wI μ3 3 8 0) 3 9 0) 3 11 0 = m := ⟨_, rfl⟩
  have o4 : cO3 [] [8, 9, 11] [] μ3 μ4 := by rw [← e4]; exact ((cO3_wF (by decide)).trans (cO3_wF (by decide))).trans (cO3_wF (by decide))
  have z4 : μ4.1 3 8 = 0 ∧ μ4.1 3 9 = 0 ∧ μ4.1 3 11 = 0 := by rw [← e4]; simp [wI, upd]
  have lx4 : lexC μ4 Y := lexC_off lx o4
  rw [e4]
  have k4 : okC Y 0 (0, 0) μ4 := ⟨lx4, ⟨by decide, fun j hj => by omega⟩, ⟨by decide, fun z => absurd rfl z⟩, z4.1, z4.2.1, z4.2.2, fun z => absurd rfl z⟩
  exact ri_loop (μ0 := μ) hG h70 401 0 (0, (0, 0), T0, dLaw, []) μ4 (by decide) (by decide) (o4.gPP P3) (o4.tO D3) k4 (dC_3 c3 o4 hd70) pOK_0 (r3.trans (rdC_3 o4 hd70 r3.2.1)) (fun v μ' h1 h2 => ⟨h1, h2⟩)
end ClR
