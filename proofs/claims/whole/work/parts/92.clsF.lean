/-! THE CLASS: what changes the row; rows kept; SLOTS; what is TOLD; count -/
theorem mod40 {n len j : Nat} (hn : n < 40) (hl : len < 40) (hj : j < len) : (n + 40 - len + j) % 40 ≠ n := by omega
theorem cJ_big {G : jG} {a : aS} {B B' t d : Nat} {μ μ' : jM} {S' : sR} {H' : List sR} {hs' : Nat → Bool} {sl' : Nat → sR} (hc : cJ G a B t d μ) (ho : cO5 (fun c => (12 ≤ c ∧ c ≤ 57) ∨ scI t c) (lnL t) μ μ') (hp : peI G μ' t (gT a) (gL a)) (h53 : μ'.1 53 = cN (gT a) S') (hok : okR S' B') (hB : B' + 200 ≤ BB) (han : anI μ' (gT a) (gL a) S') (hh : histC μ' (gT a) H') (hsl : slotC μ' (gT a) hs' sl') : cJ G (a.1, a.2.1, (S', H'), (hs', sl'), gD a) B' t d μ' ∧ hiC μ μ' := by
  obtain ⟨h1, ⟨hd, hdt, hd7, hdo⟩, h3, h4, h5, h6, h7, h8, h9, -⟩ := hc
  have ht2 := h1.1.2.2.1.1
  have ec : ∀ c, c < 12 ∨ (58 ≤ c ∧ c < 70) ∨ 112 ≤ c → μ'.1 c = μ.1 c := fun c h => ho.2.1 c (by unfold scI; omega)
  have hhi : hiC μ μ' := ho.hi (fun c hc => by unfold scI at hc; unfold kxI; omega) (fun c hc => by have := lnL_in hc; omega)
  refine ⟨⟨⟨hp, h53, ⟨hok.2.1, hB, hok.2.2⟩, by rw [ec 59 (by omega)]; exact h1.2.2.2⟩, ⟨hd, hdt, by rw [ho.1 0 7 (by decide)]; exact hd7, ho.tO (by omega) hdo⟩, ?_, ?_, hh, hsl, ?_, ?_, ?_, han⟩, hhi⟩
  · show tapeC μ' (gY a)
    unfold tapeC at h3 ⊢; rw [ec 1 (by omega), ec 2 (by omega)]; exact h3
  · show μ'.1 0 8 = gPl a
    rw [ec 0 (by omega)]; exact h4
  · show dreamC μ' (gD a)
    unfold dreamC at h7 ⊢; rw [ec 63 (by omega), ec 66 (by omega), ec 67 (by omega), ec 68 (by omega)]; exact h7
  · show lrC G μ' (gT a) (gL a)
    unfold lrC at h8 ⊢
    rw [ho.1 63 7 (by decide), ho.1 63 8 (by decide), ec 63 (by omega)]
    rcases h8 with h | ⟨so, wr, m, e1, e2, e3, e4, e5, e6, e7, e8, e9, e10, e11⟩
    · exact Or.inl h
    · exact Or.inr ⟨so, wr, m, e1, e2, e3, e4, e5, e6, e7, e8, e9, by rw [ec so (by omega)]; exact e10, by rw [ec wr (by omega)]; exact e11⟩
  · rw [ec 65 (by omega)]; exact h9
def pcI (c : Nat) : Prop := 53 ≤ c ∧ c ≤ 57
theorem cJ_set {G : jG} {a : aS} {B B' t d : Nat} {μ μ' : jM} {S' : sR} {H' : List sR} {hs' : Nat → Bool} {sl' : Nat → sR} (hc : cJ G a B t d μ) (ho : cOff pcI (fun _ => False) μ μ') (h53 : μ'.1 53 = cN (gT a) S') (hok : okR S' B') (hB : B' + 200 ≤ BB) (han : anI μ' (gT a) (gL a) S') (hh : histC μ' (gT a) H') (hsl : slotC μ' (gT a) hs' sl') : cJ G (a.1, a.2.1, (S', H'), (hs', sl'), gD a) B' t d μ' ∧ hiC μ μ' :=
  cJ_big hc (ho.o5.mono (fun c hc => Or.inl (by unfold pcI at hc; omega)) (fun c hc => hc.elim)) (peI_lo ho.o5 (fun c hc => by unfold pcI at hc; omega) (fun c hc => hc.elim) hc.1.1) h53 hok hB han hh hsl
theorem cJ_now {G : jG} {a : aS} {B t d : Nat} {μ : jM} (hc : cJ G a B t d μ) (hk : aOK a B) : cN (gT a) (gS a) = μ.1 53 ∧ okR (gS a) B := ⟨hc.1.2.1.symm, hk.1⟩
theorem okR.mono {R : sR} {B B' : Nat} (h : okR R B) (hb : B ≤ B') : okR R B' := ⟨h.1, h.2.1.mono hb, h.2.2⟩
section ClsF
variable {l : Launch} {G : jG}
theorem c_X3_keep (hG : gGG G) {μ : jM} (hP : gPP μ) {T : sT} {S : sR} {H : List sR} (hh : histC μ T H) (h53 : μ.1 53 = cN T S) : jC0 l mX3_keep 1 G [.ref 54, .ref 52] μ (pV fun μ' => histC μ' T (push H S) ∧ cOff (fun c => c = 54 ∨ c = 55) (fun _ => False) μ μ' ∧ ∀ f, f ≠ 0 → f ≠ 4 → μ'.1 54 f = μ.1 54 f) := by
  refine jC0.of' (ls := [.ref 54, .ref 52]) rfl rfl rfl (fun _ _ => Nat.le_of_ble_eq_true rfl) ?_
  obtain ⟨n, hn, e4, e0, hl, hr⟩ := hh
  have e71 : μ.1 54 4 * 71 = nI (71 * n) := by rw [e4, show (71 : Int32) = nI 71 from rfl, pk_mul, Nat.mul_comm]
  have c71 : (μ.1 54 4 * 71).toNatClampNeg = 71 * n := by rw [e71]; exact nI_clamp (by omega)
  have s71 : (71 : Int32).toNatClampNeg = 71 := rfl
  have s0 : (0 : Int32).toNatClampNeg = 0 := rfl
  have en : (μ.1 54 4 + 1) - (μ.1 54 4 + 1) / 40 * 40 = nI ((n + 1) % 40) := by rw [e4, nI_inc]; exact pk_rem (d := 40) (by omega) (by decide) (by decide)
  refine b_X3_keep_0 hG hP (by rw [e71]; exact nI_pos (by omega)) (by rw [c71, s71]; omega) ?_
  rw [en, c71, s71, s0, e0, nI_inc]
  have emin : (if (40 : Int32) < nI (H.length + 1) then (40 : Int32) else nI (H.length + 1)) = nI (push H S).length := by
    unfold push
    by_cases h : H.length = 40
    · rw [if_pos h, if_pos (by rw [h]; decide)]
      have : (H.tail ++ [S]).length = 40 := by simp; omega
      rw [this]; rfl
    · have h40 : ¬ (40 : Int32) < nI (H.length + 1) := nI_nlt (a := 40) (by omega) (by decide)
      rw [if_neg h, if_neg h40]
      simp
  rw [emin]
  obtain ⟨C, hC⟩ : ∃ C, C = va_cpy (μ.1 53) (μ.1 55) 0 (71 * n) 71 := ⟨_, rfl⟩
  rw [← hC]
  have hin : ∀ i, i < 71 → C (71 * n + i) = cN T S i := fun i hi => by rw [hC, pk_cpy_in (by omega) (by omega), h53]; congr 1; omega
  have hout : ∀ m i, i < 71 → m ≠ n → C (71 * m + i) = μ.1 55 (71 * m + i) := fun m i hi hm => by rw [hC]; exact pk_cpy_out (by omega)
  refine ⟨⟨(n + 1) % 40, Nat.mod_lt _ (by decide), ?_, ?_, push_len hl, ?_⟩, ?_, fun f h0 h4 => ?_⟩
  · rw [wI_off' (by decide), wI_at]
  · rw [wI_at]
  · intro j R hR i hi
    rw [wI_ne (by decide), wI_ne (by decide), sI_eq]
    unfold push at hR ⊢
    by_cases h : H.length = 40
    · rw [if_pos h] at hR ⊢
      have hlen : (H.tail ++ [S]).length = 40 := by simp; omega
      rw [hlen]
      have hj : j < 40 := by have := (List.getElem?_eq_some_iff.mp hR).1; omega
      have htl : H.tail.length = 39 := by simp; omega
      by_cases e : j = 39
      · rw [e, List.getElem?_append_right (by omega)] at hR
        have hRS : R = S := by
          rw [htl] at hR
          simp at hR
          exact hR.symm
        rw [hRS, e, show ((n + 1) % 40 + 40 - 40 + 39) % 40 = n by omega]
        exact hin i hi
      · rw [List.getElem?_append_left (by omega), List.getElem?_tail] at hR
        have hx : ((n + 1) % 40 + 40 - 40 + j) % 40 = (n + 40 - H.length + (j + 1)) % 40 := by rw [h]; omega
        rw [hx, hout _ i hi (by rw [h]; omega)]
        exact hr (j + 1) R hR i hi
    · rw [if_neg h] at hR ⊢
      have hlen : (H ++ [S]).length = H.length + 1 := by simp
      rw [hlen]
      have hj : j < H.length + 1 := by have := (List.getElem?_eq_some_iff.mp hR).1; omega
      have hx : ((n + 1) % 40 + 40 - (H.length + 1) + j) % 40 = (n + 40 - H.length + j) % 40 := by omega
      rw [hx]
      by_cases e : j = H.length
      · rw [e, List.getElem?_append_right (Nat.le_refl _)] at hR
        have hRS : R = S := by simp at hR; exact hR.symm
        rw [hRS, e, show (n + 40 - H.length + H.length) % 40 = n by omega]
        exact hin i hi
      · rw [List.getElem?_append_left (by omega)] at hR
        rw [hout _ i hi (mod40 hn (by omega) (by omega))]
        exact hr j R hR i hi
  · exact ((cOff_sI (PI := fun c => c = 54 ∨ c = 55) (PL := fun _ => False) (Or.inr rfl)).trans (cOff_wI (Or.inl rfl))).trans (cOff_wI (Or.inl rfl))
  · rw [wI_off' h0, wI_off' h4, sI_ne (by decide)]
theorem c_X11_beginThing (hG : gGG G) {μ : jM} (hP : gPP μ) {T : sT} {S : sR} {H : List sR} {hs : Nat → Bool} {sl : Nat → sR} (hh : histC μ T H) (hsl : slotC μ T hs sl) (h53 : μ.1 53 = cN T S) : jC0 l mX11_beginThing 2 G [.ref 0] μ (pV fun μ' => gPP μ' ∧ histC μ' T (push H S) ∧ slotC μ' T hs sl ∧ cOff (fun c => c = 54 ∨ c = 55 ∨ c = 57) (fun _ => False) μ μ' ∧ μ'.1 57 2 = -1) := by
  refine jC0.of' (ls := [.ref 0]) rfl rfl rfl (fun _ _ => Nat.le_of_ble_eq_true rfl) ?_
  refine b_X11_beginThing_0 hG hP (c_X3_keep hG hP hh h53) ?_
  rintro μ1 ⟨h1, o1, f1⟩
  have hP1 := o1.gPP hP
  refine b_X11_beginThing_11 hG hP1 (c_X1_outdate hG hP1) ?_
  rintro μ2 rfl
  refine b_X11_beginThing_18 (μ := wI μ1 57 2 (-1)) hG hP1 ⟨hP1, ?_, ?_, (o1.mono (fun c hc => by omega) (fun c hc => hc)).trans (cOff_wI (Or.inr (Or.inr rfl))), by rw [wI_at]⟩
  · unfold histC at h1 ⊢; rw [wI_ne (by decide), wI_ne (by decide)]; exact h1
  · unfold slotC at hsl ⊢; rw [wI_ne (by decide), wI_ne (by decide), f1 1 (by decide) (by decide), o1.2.1 56 (by decide)]; exact hsl
theorem keep53 {μ μ' : jM} {T : sT} {H : List sR} {hs : Nat → Bool} {sl : Nat → sR} (ho : cOff (fun c => c = 53) (fun _ => False) μ μ') (hh : histC μ T H) (hsl : slotC μ T hs sl) : histC μ' T H ∧ slotC μ' T hs sl := by
  unfold histC at hh ⊢
  unfold slotC at hsl ⊢
  rw [ho.2.1 54 (by decide), ho.2.1 55 (by decide), ho.2.1 56 (by decide)]
  exact ⟨hh, hsl⟩
theorem c_X11_gate (hG : gGG G) {μ : jM} (hP : gPP μ) {a : aS} {B t d : Nat} (hc : cJ G a B t d μ) (hk : aOK a B) (x y : Int32) : jC0 l mX11_gate 3 G [.ref 0, .int x, .int y] μ (pI fun z μ' => z = (dGate (gT a) (gS a) (gH a) x y).1 ∧ cJ G (aSH a (dGate (gT a) (gS a) (gH a) x y).2.1 (dGate (gT a) (gS a) (gH a) x y).2.2) B t d μ' ∧ gPP μ' ∧ hiC μ μ') := by
  refine jC0.of' (ls := [.ref 0, .int x, .int y, .null]) rfl rfl rfl (fun _ _ => Nat.le_of_ble_eq_true rfl) ?_
  have hf := hc.1
  have h12 := hf.1.2.2.1.2.2.2.2.2.1.2.1
  have hB := hf.2.2.1.2.1
  have no : ¬ (isN x (gT a 0 1) ∧ gtC (gS a) x y) → dGate (gT a) (gS a) (gH a) x y = (0, gS a, gH a) := fun h => if_neg h
  have yes : (isN x (gT a 0 1) ∧ gtC (gS a) x y) → dGate (gT a) (gS a) (gH a) x y = ((1 : Int32), upd (gS a) 64 (gS a 64 ^^^ (1 <<< (x &&& 31))), push (gH a) (gS a)) := fun h => if_pos h
  have r4 : μ.1 53 4 = gS a 64 := by rw [hf.2.1]; rfl
  refine b_X11_gate_0 hG hP (c_X11_isRoad hG hP hf x) ?_
  rintro z μ1 ⟨rfl, ⟨rfl, hx⟩ | ⟨rfl, hx⟩⟩
  · obtain ⟨k, hkk, rfl⟩ := id hx
    have g01 : ((((μ1.1 53 4) >>> (nI k &&& 31)) &&& 1) = (0)) ↔ ¬ (((gS a 64) >>> (nI k &&& 31)) &&& 1) = 1 := by
      rw [r4, sh1_0 (by omega), sh1_1 (by omega)]; cases bt (gS a 64) k <;> simp
    have bt' := c_X11_beginThing (l := l) hG hP hc.2.2.2.2.1 hc.2.2.2.2.2.1 hf.2.1
    have tail : gtC (gS a) (nI k) y → ∀ μ2, (gPP μ2 ∧ histC μ2 (gT a) (push (gH a) (gS a)) ∧ slotC μ2 (gT a) (gHs a) (gSl a) ∧ cOff (fun c => c = 54 ∨ c = 55 ∨ c = 57) (fun _ => False) μ1 μ2 ∧ μ2.1 57 2 = -1) → J l mX11_gate (jZ0 3 G (pI fun z μ' => z = (dGate (gT a) (gS a) (gH a) (nI k) y).1 ∧ cJ G (aSH a (dGate (gT a) (gS a) (gH a) (nI k) y).2.1 (dGate (gT a) (gS a) (gH a) (nI k) y).2.2) B t d μ' ∧ gPP μ' ∧ hiC μ1 μ')) G 0 0 43 [.ref 0, .int (nI k), .null, .int (μ1.1 53 4)] [] μ2 := by
      rintro hg μ2 ⟨hP2, hh2, hs2, ho2, h57⟩
      rw [yes ⟨hx, hg⟩]
      refine b_X11_gate_43 hG hP2 ?_
      rw [r4]
      have ow : cOff (fun c => c = 53) (fun _ => False) μ2 (wI μ2 53 4 (gS a 64 ^^^ (1 <<< (nI k &&& 31)))) := cOff_wI rfl
      obtain ⟨hh3, hs3⟩ := keep53 ow hh2 hs2
      have u65 : upd (gS a) 64 (gS a 64 ^^^ (1 <<< (nI k &&& 31))) 65 = gS a 65 := upd_ne (by decide)
      obtain ⟨h1, h2⟩ := cJ_set (μ' := wI μ2 53 4 (gS a 64 ^^^ (1 <<< (nI k &&& 31)))) (S' := upd (gS a) 64 (gS a 64 ^^^ (1 <<< (nI k &&& 31)))) (B' := B) hc ((ho2.mono (fun c hc => by unfold pcI; omega) (fun c hc => hc)).trans (ow.mono (fun c hc => by unfold pcI; omega) (fun c hc => hc))) (by
        unfold cN
        rw [wI_eq, ho2.2.1 53 (by decide), hf.2.1, u65, cRow_upd (i := 64) (by decide)] <;> rfl) ⟨fun i hi => by rw [upd_ne (by omega)]; exact hk.1.1 i hi, rgS_64 hk.1.2.1, by rw [u65]; exact hk.1.2.2⟩ hB (anI_out (by rw [wI_ne (by decide)]; exact h57)) hh3 hs3
      exact ⟨rfl, h1, hP2, h2⟩
    have n0 : ¬ gtC (gS a) (nI k) y → (0 : Int32) = (dGate (gT a) (gS a) (gH a) (nI k) y).1 ∧ cJ G (aSH a (dGate (gT a) (gS a) (gH a) (nI k) y).2.1 (dGate (gT a) (gS a) (gH a) (nI k) y).2.2) B t d μ1 ∧ gPP μ1 ∧ hiC μ1 μ1 := fun h => by
      rw [no (fun z => h z.2)]; exact ⟨rfl, hc, hP, hiC.refl⟩
    refine b_X11_gate_5 hG hP (fun _ _ _ => bt') (fun _ h1 h2 => tail ?_) (fun _ h1 h2 => n0 (fun z => ?_)) (fun _ _ _ => bt') (fun _ h1 h2 => tail ?_) (fun _ h1 h2 => n0 (fun z => ?_)) (fun h => absurd h (by decide))
    · unfold gtC; rw [if_neg (g01.mp h1)]; exact h2
    · unfold gtC at z; rw [if_neg (g01.mp h1)] at z; exact z h2
    · unfold gtC; rw [if_pos (Classical.byContradiction (fun w => h1 (g01.mpr w)))]; exact h2
    · unfold gtC at z; rw [if_pos (Classical.byContradiction (fun w => h1 (g01.mpr w)))] at z; exact z h2
  · rw [no (fun z => hx z.1)]
    exact b_X11_gate_5 (ψ0 := fun _ => True) (ψ2 := fun _ => True) hG hP (fun h => absurd rfl h) (fun h => absurd rfl h) (fun h => absurd rfl h) (fun h => absurd rfl h) (fun h => absurd rfl h) (fun h => absurd rfl h) (fun _ => ⟨rfl, hc, hP, hiC.refl⟩)
theorem c_X11_rate (hG : gGG G) {μ : jM} (hP : gPP μ) {a : aS} {B t d : Nat} (hc : cJ G a B t d μ) (hk : aOK a B) (x : Int32) : jC0 l mX11_rate 3 G [.ref 0, .int x] μ (pI fun z μ' => z = (dRate (gS a) (gH a) x).1 ∧ cJ G (aSH a (dRate (gS a) (gH a) x).2.1 (dRate (gS a) (gH a) x).2.2) B t d μ' ∧ gPP μ' ∧ hiC μ μ') := by
  refine jC0.of' (ls := [.ref 0, .int x]) rfl rfl rfl (fun _ _ => Nat.le_of_ble_eq_true rfl) ?_
  have hf := hc.1
  have hB := hf.2.2.1.2.1
  have no : ¬ (isN x 10 ∧ ¬ gS a 65 = x) → dRate (gS a) (gH a) x = (0, gS a, gH a) := fun h => if_neg h
  have n0 : ¬ (isN x 10 ∧ ¬ gS a 65 = x) → (0 : Int32) = (dRate (gS a) (gH a) x).1 ∧ cJ G (aSH a (dRate (gS a) (gH a) x).2.1 (dRate (gS a) (gH a) x).2.2) B t d μ ∧ gPP μ ∧ hiC μ μ := fun h => by rw [no h]; exact ⟨rfl, hc, hP, hiC.refl⟩
  have r1 : μ.1 53 1 = gS a 65 := by rw [hf.2.1]; rfl
  refine b_X11_rate_0 hG hP (fun h => n0 (fun z => isN_lt h (by decide) z.1)) (fun _ h => n0 (fun z => isN_big' (n := 9) (by decide) rfl h z.1)) (fun _ _ _ => c_X11_beginThing hG hP hc.2.2.2.2.1 hc.2.2.2.2.2.1 hf.2.1) (fun h0 h1 h2 => ?_) (fun _ _ h => n0 (fun z => z.2 (by rw [← r1]; exact h.symm)))
  have hx := isN_no (n := 9) (by decide) h0 h1
  have h65 : ¬ gS a 65 = x := fun z => h2 (by rw [r1]; exact z.symm)
  have yes : dRate (gS a) (gH a) x = (1, upd (gS a) 65 x, push (gH a) (gS a)) := if_pos ⟨hx, h65⟩
  rw [yes]
  rintro μ2 ⟨hP2, hh2, hs2, ho2, h57⟩
  refine b_X11_rate_29 hG hP2 (c_X5_setRates hG hP2 (s := 52) (by decide) x x) ?_
  rintro μ3 rfl
  have ow : cOff (fun c => c = 53) (fun _ => False) μ2 (wI (wI μ2 53 1 x) 53 2 x) := cOff.trans (μ1 := wI μ2 53 1 x) (cOff_wI (PI := fun c => c = 53) rfl) (cOff_wI (PI := fun c => c = 53) rfl)
  obtain ⟨hh3, hs3⟩ := keep53 ow hh2 hs2
  have u65 : upd (gS a) 65 x 65 = x := upd_at
  obtain ⟨r, hr9, hre⟩ := hx
  obtain ⟨h1, h2⟩ := cJ_set (μ' := wI (wI μ2 53 1 x) 53 2 x) (S' := upd (gS a) 65 x) (B' := B) hc ((ho2.mono (fun c hc => by unfold pcI; omega) (fun c hc => hc)).trans (ow.mono (fun c hc => by unfold pcI; omega) (fun c hc => hc))) (by
    rw [wI_eq, wI_eq, ho2.2.1 53 (by decide), hf.2.1]
    unfold cN
    rw [u65, show upd (cRow (gS a) (gS a 65) (nI (gT a 0 7)) (thN (gT a))) 1 x = cRow (upd (gS a) 65 x) (gS a 65) (nI (gT a 0 7)) (thN (gT a)) from (cRow_upd (i := 65) (by decide)).symm, cRow_od]) ⟨fun i hi => by rw [upd_ne (by omega)]; exact hk.1.1 i hi, rgS_65 hk.1.2.1, r, by omega, by rw [u65]; exact hre⟩ hB (anI_out (by rw [wI_ne (by decide), wI_ne (by decide)]; exact h57)) hh3 hs3
  exact b_X11_rate_38 (μ := wI (wI μ2 53 1 x) 53 2 x) hG hP2 ⟨rfl, h1, hP2, h2⟩
theorem c_X11_mend (hG : gGG G) {μ : jM} (hP : gPP μ) {a : aS} {B t d : Nat} (hc : cJ G a B t d μ) (hk : aOK a B) (x : Int32) : jC0 l mX11_mend 3 G [.ref 0, .int x] μ (pI fun z μ' => z = (dMend (gT a) (gS a) (gH a) x).1 ∧ cJ G (aSH a (dMend (gT a) (gS a) (gH a) x).2.1 (dMend (gT a) (gS a) (gH a) x).2.2) B t d μ' ∧ gPP μ' ∧ hiC μ μ') := by
  refine jC0.of' (ls := [.ref 0, .int x, .null, .null]) rfl rfl rfl (fun _ _ => Nat.le_of_ble_eq_true rfl) ?_
  have hf := hc.1
  have h12 := hf.1.2.2.1.2.2.2.2.2.1.2.1
  have hB := hf.2.2.1.2.1
  refine b_X11_mend_0 hG hP (c_X11_isRoad hG hP hf x) ?_
  rintro z μ1 ⟨rfl, ⟨rfl, hx⟩ | ⟨rfl, hx⟩⟩
  · obtain ⟨k, hkk, rfl⟩ := id hx
    have ck : (nI k).toNatClampNeg = k := nI_clamp (by omega)
    have a7 : (7 : Int32) + nI k = nI (7 + k) := nI_add 7 k
    have c7 : ((7 : Int32) + nI k).toNatClampNeg = 7 + k := by rw [a7]; exact nI_clamp (by omega)
    have v7 : vp_in ((7 : Int32) + nI k) 71 := by rw [a7]; exact vp_in_nI (by omega) (by decide)
    have rk : μ1.1 53 ((7 : Int32) + nI k).toNatClampNeg = gS a k := by rw [c7, hf.2.1, cRow_w (by omega)]
    have r3 : μ1.1 53 3 = gS a 66 := by rw [hf.2.1]; rfl
    have e0 : dMend (gT a) (gS a) (gH a) (nI k) = if ¬ gS a k = 0 ∧ gS a k ≤ gS a 66 then (gS a 66 - gS a k, upd (upd (gS a) 66 (gS a 66 - gS a k)) k 0, push (gH a) (gS a)) else (-2, gS a, gH a) := by
      unfold dMend; rw [if_pos ⟨k, hkk, rfl⟩, ck]
    have n0 : ¬ (¬ gS a k = 0 ∧ gS a k ≤ gS a 66) → (-2 : Int32) = (dMend (gT a) (gS a) (gH a) (nI k)).1 ∧ cJ G (aSH a (dMend (gT a) (gS a) (gH a) (nI k)).2.1 (dMend (gT a) (gS a) (gH a) (nI k)).2.2) B t d μ1 ∧ gPP μ1 ∧ hiC μ1 μ1 := fun h => by
      rw [e0, if_neg h]; exact ⟨rfl, hc, hP, hiC.refl⟩
    refine b_X11_mend_5 hG hP (fun _ => v7) (fun _ h => n0 (fun z => z.1 (by rw [← rk]; exact h))) (fun _ _ _ => c_X11_beginThing hG hP hc.2.2.2.2.1 hc.2.2.2.2.2.1 hf.2.1) (fun _ h1 h2 => ?_) (fun _ _ h => n0 (fun z => h (by rw [rk, r3]; exact z.2))) (fun h => absurd h (by decide))
    rw [rk, r3] at *
    rw [e0, if_pos ⟨h1, h2⟩]
    rintro μ2 ⟨hP2, hh2, hs2, ho2, h57⟩
    refine b_X11_mend_49 hG hP2 v7 ?_
    rw [c7]
    obtain ⟨v, hv⟩ : ∃ v, v = gS a 66 - gS a k := ⟨_, rfl⟩
    rw [← hv]
    have ow : cOff (fun c => c = 53) (fun _ => False) μ2 (wI (wI μ2 53 (7 + k) 0) 53 3 v) := cOff.trans (μ1 := wI μ2 53 (7 + k) 0) (cOff_wI (PI := fun c => c = 53) rfl) (cOff_wI (PI := fun c => c = 53) rfl)
    obtain ⟨hh3, hs3⟩ := keep53 ow hh2 hs2
    have u65 : upd (upd (gS a) 66 v) k 0 65 = gS a 65 := by rw [upd_ne (by omega), upd_ne (by decide)]
    obtain ⟨q1, q2⟩ := cJ_set (μ' := wI (wI μ2 53 (7 + k) 0) 53 3 v) (S' := upd (upd (gS a) 66 v) k 0) (B' := B) hc ((ho2.mono (fun c hc => by unfold pcI; omega) (fun c hc => hc)).trans (ow.mono (fun c hc => by unfold pcI; omega) (fun c hc => hc))) (by
      rw [wI_eq, wI_eq, ho2.2.1 53 (by decide), hf.2.1]
      unfold cN
      rw [u65, cRow_upd (i := k) (by omega), cRow_upd (i := 66) (by decide), cix_lo (i := k) (by omega), show cix 66 = 3 from rfl, Nat.add_comm k 7]
      funext j
      by_cases e3 : j = 3
      · rw [e3, upd_at, upd_ne (by omega), upd_at]
      · by_cases e7 : j = 7 + k
        · rw [e7, upd_ne (by omega), upd_at, upd_at]
        · rw [upd_ne e3, upd_ne e7, upd_ne e7, upd_ne e3]) ⟨fun i hi => by rw [upd_ne (by omega), upd_ne (by omega)]; exact hk.1.1 i hi, ⟨by rw [upd_ne (by omega), upd_ne (by decide)]; exact hk.1.2.1.1, fun j hj => by
        by_cases e : j = k
        · rw [e, upd_at]; exact ⟨0, by omega, rfl⟩
        · rw [upd_ne e, upd_ne (by omega)]; exact hk.1.2.1.2 j hj⟩, by rw [u65]; exact hk.1.2.2⟩ hB (anI_out (by rw [wI_ne (by decide), wI_ne (by decide)]; exact h57)) hh3 hs3
    exact ⟨rfl, q1, hP2, q2⟩
  · have e0 : dMend (gT a) (gS a) (gH a) x = (-1, gS a, gH a) := if_neg hx
    rw [e0]
    exact b_X11_mend_5 (ψ1 := fun _ => True) hG hP (fun h => absurd rfl h) (fun h => absurd rfl h) (fun h => absurd rfl h) (fun h => absurd rfl h) (fun h => absurd rfl h) (fun _ => ⟨rfl, hc, hP, hiC.refl⟩)
end ClsF
