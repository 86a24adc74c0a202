/-! THE CLASS: what is TOLD; count -/
section ClsH
variable {l : Launch} {G : jG}
theorem cJ_dr {a : aS} {B t d : Nat} {μ μ' : jM} {D : List (Nat × Nat × Nat)} (hc : cJ G a B t d μ) (ho : cOff (fun c => c = 63 ∨ c = 66 ∨ c = 67 ∨ c = 68) (fun _ => False) μ μ') (h6 : μ'.1 63 6 = μ.1 63 6) (hD : dreamC μ' D) : cJ G (aDr a D) B t d μ' ∧ hiC μ μ' := by
  obtain ⟨h1, ⟨hd, hdt, hd7, hdo⟩, h3, h4, h5, h6', h7, h8, h9, h10⟩ := hc
  have ec : ∀ c, c < 63 ∨ c = 64 ∨ c = 65 ∨ 69 ≤ c → μ'.1 c = μ.1 c := fun c h => ho.2.1 c (by omega)
  refine ⟨⟨⟨peI_lo ho.o5 (fun c hc => by omega) (fun c hc => hc.elim) h1.1, by rw [ec 53 (by omega)]; exact h1.2.1, h1.2.2.1, by rw [ec 59 (by omega)]; exact h1.2.2.2⟩, ⟨hd, hdt, by rw [ho.1]; exact hd7, ho.tO hdo⟩, ?_, by rw [ec 0 (by omega)]; exact h4, ?_, ?_, hD, ?_, by rw [ec 65 (by omega)]; exact h9, ?_⟩, ho.o5.hi (fun c hc => by unfold kxI; omega) (fun c hc => hc.elim)⟩
  · show tapeC μ' (gY a)
    unfold tapeC at h3 ⊢; rw [ec 1 (by omega), ec 2 (by omega)]; exact h3
  · show histC μ' (gT a) (gH a)
    unfold histC at h5 ⊢; rw [ec 54 (by omega), ec 55 (by omega)]; exact h5
  · show slotC μ' (gT a) (gHs a) (gSl a)
    unfold slotC at h6' ⊢; rw [ec 54 (by omega), ec 56 (by omega)]; exact h6'
  · show lrC G μ' (gT a) (gL a)
    unfold lrC at h8 ⊢
    rw [ho.1, h6]
    rcases h8 with h | ⟨so, wr, m, e1, e2, e3, e4, e5, e6, e7, e8, e9, e10, e11⟩
    · exact Or.inl h
    · exact Or.inr ⟨so, wr, m, e1, e2, e3, e4, e5, e6, e7, e8, e9, by rw [ec so (by omega)]; exact e10, by rw [ec wr (by omega)]; exact e11⟩
  · show anI μ' (gT a) (gL a) (gS a)
    unfold anI at h10 ⊢; rw [ec 57 (by omega), ec 60 (by omega), ec 61 (by omega)]; exact h10
theorem c_X11_forget (hG : gGG G) {μ : jM} (hP : gPP μ) {a : aS} {B t d : Nat} (hc : cJ G a B t d μ) : jC0 l mX11_forget 0 G [.ref 0] μ (pI fun z μ' => z = nI (gD a).length ∧ cJ G (aDr a []) B t d μ' ∧ gPP μ' ∧ hiC μ μ') := by
  refine jC0.of' (ls := [.ref 0, .null]) rfl rfl rfl (fun _ _ => Nat.le_of_ble_eq_true rfl) ?_
  have h7 := hc.2.2.2.2.2.2.1
  obtain ⟨q1, q2⟩ := cJ_dr (μ' := wI μ 63 0 0) (D := []) hc (cOff_wI (Or.inl rfl)) (by rw [wI_off' (by decide)]) ⟨by rw [wI_at]; rfl, Nat.zero_le _, fun i d hd => by cases hd⟩
  exact b_X11_forget_0 hG hP ⟨h7.1, q1, hP, q2⟩
theorem c_X0_add (hG : gGG G) {μ : jM} (hP : gPP μ) {a : aS} {B t d : Nat} (hc : cJ G a B t d μ) {k n b : Nat} (hb : b ≤ 1) : jC0 l mX0_add 0 G [.ref 63, .int (nI k), .int (nI n), .int (nI b)] μ (pI fun z μ' => ((gD a).length = 20 ∧ z = -1 ∧ μ' = μ) ∨ ((gD a).length ≠ 20 ∧ z = nI (gD a).length ∧ cJ G (aDr a (gD a ++ [(k, n, b)])) B t d μ' ∧ gPP μ' ∧ hiC μ μ')) := by
  refine jC0.of' (ls := [.ref 63, .int (nI k), .int (nI n), .int (nI b)]) rfl rfl rfl (fun _ _ => Nat.le_of_ble_eq_true rfl) ?_
  have h7 := hc.2.2.2.2.2.2.1
  have hl := h7.2.1
  have h20 : (μ.1 63 0 < (20 : Int32)) ↔ (gD a).length < 20 := by rw [h7.1, i32_lt, nI_toInt (by omega), show (20 : Int32).toInt = 20 from rfl]; omega
  have cD : (μ.1 63 0).toNatClampNeg = (gD a).length := by rw [h7.1]; exact nI_clamp (by omega)
  have go : μ.1 63 0 < (20 : Int32) → ∀ v : Int32, v = nI b → ((gD a).length = 20 ∧ ((μ.1 63 0) + 1) - 1 = -1 ∧ (wI (wI (wI (wI μ 66 (μ.1 63 0).toNatClampNeg (nI k)) 67 (μ.1 63 0).toNatClampNeg (nI n)) 68 (μ.1 63 0).toNatClampNeg v) 63 0 ((μ.1 63 0) + 1)) = μ) ∨ ((gD a).length ≠ 20 ∧ ((μ.1 63 0) + 1) - 1 = nI (gD a).length ∧ cJ G (aDr a (gD a ++ [(k, n, b)])) B t d (wI (wI (wI (wI μ 66 (μ.1 63 0).toNatClampNeg (nI k)) 67 (μ.1 63 0).toNatClampNeg (nI n)) 68 (μ.1 63 0).toNatClampNeg v) 63 0 ((μ.1 63 0) + 1)) ∧ gPP (wI (wI (wI (wI μ 66 (μ.1 63 0).toNatClampNeg (nI k)) 67 (μ.1 63 0).toNatClampNeg (nI n)) 68 (μ.1 63 0).toNatClampNeg v) 63 0 ((μ.1 63 0) + 1)) ∧ hiC μ (wI (wI (wI (wI μ 66 (μ.1 63 0).toNatClampNeg (nI k)) 67 (μ.1 63 0).toNatClampNeg (nI n)) 68 (μ.1 63 0).toNatClampNeg v) 63 0 ((μ.1 63 0) + 1))) := by
    rintro h v rfl
    have hlt := h20.mp h
    rw [cD]
    obtain ⟨μ4, h4e⟩ : ∃ μ4, μ4 = wI (wI (wI (wI μ 66 (gD a).length (nI k)) 67 (gD a).length (nI n)) 68 (gD a).length (nI b)) 63 0 ((μ.1 63 0) + 1) := ⟨_, rfl⟩
    rw [← h4e]
    have oo : cOff (fun c => c = 63 ∨ c = 66 ∨ c = 67 ∨ c = 68) (fun _ => False) μ μ4 := by
      rw [h4e]
      exact (((cOff_wI (PI := fun c => c = 63 ∨ c = 66 ∨ c = 67 ∨ c = 68) (PL := fun _ => False) (Or.inr (Or.inl rfl))).trans (cOff_wI (Or.inr (Or.inr (Or.inl rfl))))).trans (cOff_wI (Or.inr (Or.inr (Or.inr rfl))))).trans (cOff_wI (Or.inl rfl))
    obtain ⟨q1, q2⟩ := cJ_dr (μ' := μ4) (D := gD a ++ [(k, n, b)]) hc oo (by rw [h4e, wI_off' (by decide), wI_ne (by decide), wI_ne (by decide), wI_ne (by decide)]) ⟨by rw [h4e, wI_at, h7.1, nI_inc]; simp, by simp; omega, fun i d hd => by
      have c66 : μ4.1 66 = upd (μ.1 66) (gD a).length (nI k) := by rw [h4e, wI_ne (by decide), wI_ne (by decide), wI_ne (by decide), wI_eq]
      have c67 : μ4.1 67 = upd (μ.1 67) (gD a).length (nI n) := by rw [h4e, wI_ne (by decide), wI_ne (by decide), wI_eq, wI_ne (by decide)]
      have c68 : μ4.1 68 = upd (μ.1 68) (gD a).length (nI b) := by rw [h4e, wI_ne (by decide), wI_eq, wI_ne (by decide), wI_ne (by decide)]
      rw [c66, c67, c68]
      by_cases e : i = (gD a).length
      · rw [e] at hd ⊢
        simp at hd
        rw [← hd, upd_at, upd_at, upd_at]; exact ⟨rfl, rfl, rfl⟩
      · have hi : i < (gD a).length := by
          have := (List.getElem?_eq_some_iff.mp hd).1
          simp at this; omega
        rw [List.getElem?_append_left hi] at hd
        rw [upd_ne e, upd_ne e, upd_ne e]
        exact h7.2.2 i d hd⟩
    refine Or.inr ⟨by omega, ?_, q1, oo.gPP hP, q2⟩
    rw [h7.1, Int32.sub_eq_add_neg, Int32.add_assoc, Int32.add_right_neg, Int32.add_zero]
  refine b_X0_add_0 hG hP (fun h => by rw [h7.1]; exact vp_in_nI (h20.mp h) (by decide)) (fun h h0 => go h 0 h0.symm) (fun h h0 => go h 1 ?_) (fun h => Or.inl ⟨?_, rfl, rfl⟩)
  · rcases Nat.le_one_iff_eq_zero_or_eq_one.mp hb with e | e
    · rw [e] at h0; exact absurd rfl h0
    · rw [e]; rfl
  · have : ¬ (gD a).length < 20 := fun z => h (h20.mpr z)
    omega
theorem c_X11_tell (hG : gGG G) {μ : jM} (hP : gPP μ) {a : aS} {B t d : Nat} (hc : cJ G a B t d μ) (x y : Int32) {b : Nat} (hb : b ≤ 1) : jC0 l mX11_tell 1 G [.ref 0, .int x, .int y, .int (nI b)] μ (pI fun z μ' => z = (dTell a x y b).1 ∧ cJ G (dTell a x y b).2 B t d μ' ∧ gPP μ' ∧ hiC μ μ') := by
  refine jC0.of' (ls := [.ref 0, .int x, .int y, .int (nI b), .null]) rfl rfl rfl (fun _ _ => Nat.le_of_ble_eq_true rfl) ?_
  have hf := hc.1
  have hx0 := hf.1.2.2.1
  have h12 := hx0.2.2.2.2.2.1.2.1
  have no : ¬ ((gD a).length ≠ 20 ∧ isN x (gT a 0 1) ∧ gT a 4 x.toNatClampNeg = 1 ∧ isN y 31) → (-1 : Int32) = (dTell a x y b).1 ∧ cJ G (dTell a x y b).2 B t d μ ∧ gPP μ ∧ hiC μ μ := fun h => by
    have e0 : dTell a x y b = (-1, a) := if_neg h
    rw [e0]; exact ⟨rfl, hc, hP, hiC.refl⟩
  refine b_X11_tell_0 hG hP (c_X11_isRoad hG hP hf x) ?_
  rintro z μ1 ⟨rfl, ⟨rfl, hx⟩ | ⟨rfl, hx⟩⟩
  · have hcall : isN y 31 → jC0 l mX0_add 0 G [.ref 63, .int x, .int y, .int (nI b)] μ1 (pI fun z μ' => ((gD a).length = 20 ∧ z = -1 ∧ μ' = μ1) ∨ ((gD a).length ≠ 20 ∧ z = nI (gD a).length ∧ cJ G (aDr a (gD a ++ [(x.toNatClampNeg, y.toNatClampNeg, b)])) B t d μ' ∧ gPP μ' ∧ hiC μ1 μ')) := by
      rintro ⟨n, hn, rfl⟩
      obtain ⟨k, hk, rfl⟩ := id hx
      rw [nI_clamp (by omega), nI_clamp (by omega)]
      exact c_X0_add hG hP hc hb
    have ty : ¬ y < 0 → ¬ (30 : Int32) < y → isN y 31 := fun h0 h1 => isN_no (n := 30) (by decide) h0 h1
    have g4 : ((((μ1.1 t 6) >>> (x &&& 31)) &&& 1) = (0)) ↔ ¬ gT a 4 x.toNatClampNeg = 1 := by
      obtain ⟨k, hk, rfl⟩ := id hx
      have h4k := (hx0.2.2.2.2.2.2.1 k hk).2.2.2.2.2
      rw [(hx0.2.2.1 k hk).2.2.2, nI_clamp (by omega)]
      exact (nI_eq (b := 0) (by omega) (by decide)).trans (by omega)
    refine b_X11_tell_5 (ψ1 := fun _ _ => True) (ψ4 := fun _ _ => True) (ψ7 := fun _ _ => True) hG hP hf.1.1 hf.1.2.1 (fun h => absurd h (by decide)) (fun h => absurd h (by decide)) (fun h => absurd h (by decide)) (fun h => absurd h (by decide)) (fun _ h _ => no (fun z => isN_lt h (by decide) z.2.2.2)) (fun _ _ h => absurd rfl h) (fun _ _ h => absurd rfl h) (fun _ _ h => absurd rfl h) (fun _ _ h _ => no (fun z => isN_big' (n := 30) (by decide) rfl h z.2.2.2)) (fun _ _ _ h => absurd rfl h) (fun _ _ _ h => absurd rfl h) (fun _ _ _ h => absurd rfl h) (fun _ _ _ h => absurd h (by decide)) (fun _ h0 h1 _ _ => hcall (ty h0 h1)) (fun _ h0 h1 _ hg => ?_) (fun _ h0 h1 _ hg => no (fun z => g4.mp hg z.2.2.1))
    have hy := ty h0 h1
    have hg1 : gT a 4 x.toNatClampNeg = 1 := Classical.byContradiction (fun z => hg (g4.mpr z))
    rintro z μ2 (⟨h20, rfl, rfl⟩ | ⟨h20, rfl, h2⟩)
    · exact b_X11_tell_59 hG hP (no (fun z => z.1 h20))
    · have e0 : dTell a x y b = (nI (gD a).length, aDr a (gD a ++ [(x.toNatClampNeg, y.toNatClampNeg, b)])) := if_pos ⟨h20, hx, hg1, hy⟩
      rw [e0]
      exact b_X11_tell_59 hG h2.2.1 ⟨rfl, h2⟩
  · exact b_X11_tell_5 (ψ1 := fun _ _ => True) (ψ4 := fun _ _ => True) (ψ7 := fun _ _ => True) (ψ10 := fun _ _ => True) hG hP hf.1.1 hf.1.2.1 (fun _ _ => no (fun z => hx z.2.1)) (fun _ h => absurd rfl h) (fun _ h => absurd rfl h) (fun _ h => absurd rfl h) (fun h => absurd rfl h) (fun h => absurd rfl h) (fun h => absurd rfl h) (fun h => absurd rfl h) (fun h => absurd rfl h) (fun h => absurd rfl h) (fun h => absurd rfl h) (fun h => absurd rfl h) (fun h => absurd rfl h) (fun h => absurd rfl h) (fun h => absurd rfl h) (fun h => absurd rfl h)
theorem c_X11_count (hG : gGG G) {μ : jM} (hP : gPP μ) {a : aS} {B t d : Nat} (hc : cJ G a B t d μ) (y : Int32) : jC0 l mX11_count 4 G [.ref 0, .int y] μ (pI fun z μ' => z = rCount a y ∧ cJ G a B t d μ' ∧ gPP μ' ∧ hiC μ μ') := by
  refine jC0.of' (ls := [.ref 0, .int y, .null]) rfl rfl rfl (fun _ _ => Nat.le_of_ble_eq_true rfl) ?_
  have hf := hc.1
  have hx0 := hf.1.2.2.1
  have h12 := hx0.2.2.2.2.2.1.2.1
  have st := And.intro hc (And.intro hP (hiC.refl (μ := μ)))
  have r53 := hf.2.1
  obtain ⟨n54, hn54, q4, q0, ql, qr⟩ := hc.2.2.2.2.1
  have e54 := hc.2.2.2.2.2.1.1
  refine b_X11_count_0 hG hP hf.1.1 hf.1.2.1 (fun h0 => ⟨?_, st⟩) (fun h0 h1 => ⟨?_, st⟩) (fun h0 h1 h2 => ⟨?_, st⟩) (fun h0 h1 h2 h3 => ⟨?_, st⟩) (fun h0 h1 h2 h3 h4 => ⟨?_, st⟩) (fun h0 h1 h2 h3 h4 h5 => ⟨?_, st⟩) (fun h0 h1 h2 h3 h4 h5 h6 => ⟨?_, st⟩) (fun _ _ _ _ _ _ _ _ => fc_now52 hG hP hf) (fun h0 h1 h2 h3 h4 h5 h6 h7 => ?_) (fun h0 h1 h2 h3 h4 h5 h6 h7 h8 => ⟨?_, st⟩) (fun h0 h1 h2 h3 h4 h5 h6 h7 h8 h9 => ⟨?_, st⟩) (fun h0 h1 h2 h3 h4 h5 h6 h7 h8 h9 h10 => ⟨?_, st⟩) (fun _ _ _ _ _ _ _ _ _ _ _ _ => by rw [e54]; exact c_JI_bitCount hG hP (hsN (gHs a)) (by have := hsN_lt (hs := gHs a); omega)) (fun h0 h1 h2 h3 h4 h5 h6 h7 h8 h9 h10 h11 => ?_) (fun _ _ _ _ _ _ _ _ _ _ _ _ _ => fc_now52 hG hP hf) (fun h0 h1 h2 h3 h4 h5 h6 h7 h8 h9 h10 h11 h12' => ?_) (fun h0 h1 h2 h3 h4 h5 h6 h7 h8 h9 h10 h11 h12 => ⟨?_, st⟩)
  · rw [hx0.2.1.1, rCount, if_pos h0]
  · rw [hx0.2.1.2.1, rCount, if_neg h0, if_pos h1]
  · rw [hx0.2.1.2.2.1, rCount, if_neg h0, if_neg h1, if_pos h2]
  · rw [r53, rCount, if_neg h0, if_neg h1, if_neg h2, if_pos h3]; rfl
  · rw [r53, rCount, if_neg h0, if_neg h1, if_neg h2, if_neg h3, if_pos h4]; rfl
  · rw [r53, rCount, if_neg h0, if_neg h1, if_neg h2, if_neg h3, if_neg h4, if_pos h5]; rfl
  · rw [r53, rCount, if_neg h0, if_neg h1, if_neg h2, if_neg h3, if_neg h4, if_neg h5, if_pos h6]; rfl
  · rintro μ2 ⟨hP2, hS2, ho2⟩
    obtain ⟨hc2, hi2⟩ := cJ_n hc hS2 ho2
    refine b_X11_count_142 hG hP2 ⟨?_, hc2, hP2, hi2⟩
    obtain ⟨n, f, k1, k2, k3, k4, k5⟩ := hS2.1.2.2.2.1
    rw [rCount, if_neg h0, if_neg h1, if_neg h2, if_neg h3, if_neg h4, if_neg h5, if_neg h6, if_pos h7, k4]
    exact k5.2
  · rw [hc.2.2.1.1, rCount, if_neg h0, if_neg h1, if_neg h2, if_neg h3, if_neg h4, if_neg h5, if_neg h6, if_neg h7, if_pos h8]
  · rw [q0, rCount, if_neg h0, if_neg h1, if_neg h2, if_neg h3, if_neg h4, if_neg h5, if_neg h6, if_neg h7, if_neg h8, if_pos h9]
  · rw [hc.2.2.2.2.2.2.1.1, rCount, if_neg h0, if_neg h1, if_neg h2, if_neg h3, if_neg h4, if_neg h5, if_neg h6, if_neg h7, if_neg h8, if_neg h9, if_pos h10]
  · rintro z μ2 ⟨rfl, rfl⟩
    refine b_X11_count_184 hG hP ⟨?_, st⟩
    rw [rCount, if_neg h0, if_neg h1, if_neg h2, if_neg h3, if_neg h4, if_neg h5, if_neg h6, if_neg h7, if_neg h8, if_neg h9, if_neg h10, if_pos h11]
    exact hsN_c (gHs a 0) (gHs a 1) (gHs a 2)
  · rintro μ2 ⟨hP2, hS2, ho2⟩
    obtain ⟨hc2, hi2⟩ := cJ_n hc hS2 ho2
    refine b_X11_count_196 hG hP2 ⟨?_, hc2, hP2, hi2⟩
    rw [rCount, if_neg h0, if_neg h1, if_neg h2, if_neg h3, if_neg h4, if_neg h5, if_neg h6, if_neg h7, if_neg h8, if_neg h9, if_neg h10, if_neg h11, if_pos h12']
    exact dnV_is h12 hS2.2.1
  · rw [rCount, if_neg h0, if_neg h1, if_neg h2, if_neg h3, if_neg h4, if_neg h5, if_neg h6, if_neg h7, if_neg h8, if_neg h9, if_neg h10, if_neg h11, if_neg h12]
end ClsH
