/-! THE CLASS: nights, undo; SLOTS; what is TOLD; count -/
theorem hsN_or : ∀ (b0 b1 b2 : Bool) (s : Nat), s < 3 → nI ((if b0 = true then 1 else 0) + (if b1 = true then 2 else 0) + (if b2 = true then 4 else 0)) ||| (1 <<< (nI s &&& 31)) = nI ((if (if 0 = s then true else b0) = true then 1 else 0) + (if (if 1 = s then true else b1) = true then 2 else 0) + (if (if 2 = s then true else b2) = true then 4 else 0)) := by decide +kernel
theorem hsN_up {hs : Nat → Bool} {s : Nat} (h : s < 3) : nI (hsN hs) ||| (1 <<< (nI s &&& 31)) = nI (hsN (upB hs s)) := hsN_or (hs 0) (hs 1) (hs 2) s h
theorem hsN_b : ∀ (b0 b1 b2 : Bool) (s : Nat), s < 3 → (((nI ((if b0 = true then 1 else 0) + (if b1 = true then 2 else 0) + (if b2 = true then 4 else 0)) >>> (nI s &&& 31)) &&& 1 = 0) ↔ ¬ (if s = 0 then b0 else if s = 1 then b1 else b2) = true) := by decide +kernel
theorem hsN_bit {hs : Nat → Bool} {s : Nat} (h : s < 3) : ((nI (hsN hs) >>> (nI s &&& 31)) &&& 1 = 0) ↔ ¬ hs s = true := by
  have h1 := hsN_b (hs 0) (hs 1) (hs 2) s h
  have : (if s = 0 then hs 0 else if s = 1 then hs 1 else hs 2) = hs s := by
    have : s = 0 ∨ s = 1 ∨ s = 2 := by omega
    rcases this with rfl | rfl | rfl <;> rfl
  rw [this] at h1
  exact h1
theorem hsN_c : ∀ (b0 b1 b2 : Bool), sBits (nI ((if b0 = true then 1 else 0) + (if b1 = true then 2 else 0) + (if b2 = true then 4 else 0))) 12 = ((if b0 = true then (1 : Int32) else 0) + (if b1 = true then 1 else 0)) + (if b2 = true then 1 else 0) := by decide +kernel
theorem hsN_lt {hs : Nat → Bool} : hsN hs < 8 := by unfold hsN; split <;> split <;> split <;> omega
section ClsG
variable {l : Launch} {G : jG}
theorem c_X11_nights (hG : gGG G) {μ : jM} (hP : gPP μ) {a : aS} {B t d : Nat} (hc : cJ G a B t d μ) (hk : aOK a B) (hB : B + 230 ≤ BB) (x : Int32) : jC0 l mX11_nights 6 G [.ref 0, .int x] μ (pI fun z μ' => z = (dNights (gT a) (gL a) (gS a) (gH a) x).1 ∧ (∃ B', B' ≤ B + 30 ∧ B ≤ B' ∧ cJ G (aSH a (dNights (gT a) (gL a) (gS a) (gH a) x).2.1 (dNights (gT a) (gL a) (gS a) (gH a) x).2.2) B' t d μ') ∧ gPP μ' ∧ hiC μ μ') := by
  refine jC0.of' (ls := [.ref 0, .int x]) rfl rfl rfl (fun _ _ => Nat.le_of_ble_eq_true rfl) ?_
  have hf := hc.1
  have hv := hf.1.2.2.1.2.2.2.2.2
  have ht2 := hf.1.2.2.1.1
  obtain ⟨r, hr9, hr⟩ := hf.2.2.1.2.2
  have no : ¬ isN x 31 → (-1 : Int32) = (dNights (gT a) (gL a) (gS a) (gH a) x).1 ∧ (∃ B', B' ≤ B + 30 ∧ B ≤ B' ∧ cJ G (aSH a (dNights (gT a) (gL a) (gS a) (gH a) x).2.1 (dNights (gT a) (gL a) (gS a) (gH a) x).2.2) B' t d μ) ∧ gPP μ ∧ hiC μ μ := fun h => by
    have e0 : dNights (gT a) (gL a) (gS a) (gH a) x = (-1, gS a, gH a) := if_neg h
    rw [e0]; exact ⟨rfl, ⟨B, by omega, by omega, hc⟩, hP, hiC.refl⟩
  refine b_X11_nights_0 hG hP (fun h => no (isN_lt h (by decide))) (fun h0 h1 h2 => ?_) (fun _ _ _ => c_X11_beginThing hG hP hc.2.2.2.2.1 hc.2.2.2.2.2.1 hf.2.1) (fun h0 h1 h2 => ?_) (fun _ h => no (isN_big (n := 30) (by decide) rfl h))
  · have hx0 : x = 0 := by apply i32_ext; rw [i32_lt] at h0; rw [i32_le] at h2; omega
    have e0 : dNights (gT a) (gL a) (gS a) (gH a) x = (gS a 67, gS a, gH a) := by unfold dNights; rw [if_pos (isN_ok (n := 30) (by decide) rfl h0 h1), if_pos hx0]
    rw [e0]; exact ⟨by rw [hf.2.1]; rfl, ⟨B, by omega, by omega, hc⟩, hP, hiC.refl⟩
  · obtain ⟨n, hn, rfl⟩ := isN_ok (n := 30) (by decide) rfl h0 h1
    have hn0 : ¬ nI n = 0 := fun e => by rw [e] at h2; exact h2 (by decide)
    have e0 : dNights (gT a) (gL a) (gS a) (gH a) (nI n) = (nnS (gT a) (gL a) n (gS a) 67, nnS (gT a) (gL a) n (gS a), push (gH a) (gS a)) := by
      unfold dNights; rw [if_pos ⟨n, hn, rfl⟩, if_neg hn0, nI_clamp (by omega)]
    rw [e0]
    rintro μ2 ⟨hP2, hh2, hs2, ho2, h57⟩
    have hf2 : fcI G μ2 t (gT a) (gL a) (gS a) B := ⟨peI_lo ho2.o5 (fun c hc => by omega) (fun c hc => hc.elim) hf.1, by rw [ho2.2.1 53 (by decide)]; exact hf.2.1, hf.2.2.1, by rw [ho2.2.1 59 (by decide)]; exact hf.2.2.2⟩
    refine b_X11_nights_20 hG hP2 (fc_now52 hG hP2 hf2) ?_
    rintro μ3 ⟨hP3, hS3, ho3⟩
    refine b_X11_nights_31 hG hP3 (c_X10_passNights hG hP3 hS3 (n := n) (by omega)) ?_
    rintro μ4 ⟨hS4, ho4, -⟩
    have hP4 := ho4.gPP hP3
    have hr4 := hS4.1.2.1
    rw [nn_c hv hr9 hr] at hr4
    have u65 : nnS (gT a) (gL a) n (gS a) 65 = gS a 65 := sNn_65 hv n
    have h53 : μ4.1 53 = cN (gT a) (nnS (gT a) (gL a) n (gS a)) := by unfold cN; rw [u65]; exact hr4
    have oA : cO5 (fun c => (12 ≤ c ∧ c ≤ 57) ∨ scI t c) (lnL t) μ μ2 := ho2.o5.mono (fun c hc => Or.inl (by omega)) (fun c hc => hc.elim)
    have oB : cO5 (fun c => (12 ≤ c ∧ c ≤ 57) ∨ scI t c) (lnL t) μ2 μ3 := ho3.mono (fun c hc => by unfold nwI at hc; rcases hc with z | z | z | z; exact Or.inl (by omega); exact Or.inl (by omega); exact Or.inr z; exact Or.inl (by omega)) (fun c hc => hc)
    have oC : cO5 (fun c => (12 ≤ c ∧ c ≤ 57) ∨ scI t c) (lnL t) μ3 μ4 := ho4.o5.mono (fun c hc => by unfold pnI at hc; rcases hc with z | z | z | z | z; exact Or.inl (by omega); exact Or.inl (by omega); exact Or.inl (by omega); exact Or.inr z; exact Or.inl (by omega)) (fun c hc => hc)
    have e54 : ∀ c, c = 54 ∨ c = 55 ∨ c = 56 ∨ c = 57 → μ4.1 c = μ2.1 c := fun c hcc => by rw [ho4.2.1 c (by unfold pnI scI; omega), ho3.2.1 c (by unfold nwI scI; omega)]
    obtain ⟨q1, q2⟩ := cJ_big (μ' := μ4) (S' := nnS (gT a) (gL a) n (gS a)) (B' := B + n) hc ((oA.trans oB).trans oC) (enS_pe hS4) h53 ⟨fun i hi => by unfold nnS; rw [sNn_hi hv hi]; exact hk.1.1 i hi, rgS_n hv hk.1.2.1 n, by rw [u65]; exact hk.1.2.2⟩ (by omega) (anI_out (by rw [e54 57 (by omega)]; exact h57)) (by unfold histC at hh2 ⊢; rw [e54 54 (by omega), e54 55 (by omega)]; exact hh2) (by unfold slotC at hs2 ⊢; rw [e54 54 (by omega), e54 56 (by omega)]; exact hs2)
    refine b_X11_nights_39 hG hP4 ⟨by rw [h53]; rfl, ⟨B + n, by omega, by omega, q1⟩, hP4, q2⟩
theorem c_X3_takeBack (hG : gGG G) {μ : jM} (hP : gPP μ) {T : sT} {S : sR} {H : List sR} (hh : histC μ T H) (h53 : μ.1 53 = cN T S) : jC0 l mX3_takeBack 1 G [.ref 54, .ref 52] μ (pI fun z μ' => z = (dUndo S H).1 ∧ histC μ' T (dUndo S H).2.2 ∧ μ'.1 53 = cN T (dUndo S H).2.1 ∧ cOff (fun c => c = 53 ∨ c = 54) (fun _ => False) μ μ' ∧ ∀ f, f ≠ 0 → f ≠ 4 → μ'.1 54 f = μ.1 54 f) := by
  refine jC0.of' (ls := [.ref 54, .ref 52]) rfl rfl rfl (fun _ _ => Nat.le_of_ble_eq_true rfl) ?_
  obtain ⟨n, hn, e4, e0, hl, hr⟩ := id hh
  have h0 : (μ.1 54 0 = (0 : Int32)) ↔ H.length = 0 := by rw [e0]; exact nI_eq (b := 0) (by omega) (by decide)
  have en : (((μ.1 54 4) + 40) - 1) - (((μ.1 54 4) + 40) - 1) / 40 * 40 = nI ((n + 39) % 40) := by
    rw [e4, show (40 : Int32) = nI 40 from rfl, nI_add, show nI (n + 40) - 1 = nI (n + 39) from by rw [Int32.sub_eq_add_neg, nI_dec]]
    exact pk_rem (d := 40) (by omega) (by decide) (by decide)
  have hm : (n + 39) % 40 < 40 := Nat.mod_lt _ (by decide)
  have e71 : ((((μ.1 54 4) + 40) - 1) - (((μ.1 54 4) + 40) - 1) / 40 * 40) * 71 = nI (71 * ((n + 39) % 40)) := by rw [en, show (71 : Int32) = nI 71 from rfl, pk_mul, Nat.mul_comm]
  have c71 : (((((μ.1 54 4) + 40) - 1) - (((μ.1 54 4) + 40) - 1) / 40 * 40) * 71).toNatClampNeg = 71 * ((n + 39) % 40) := by rw [e71]; exact nI_clamp (by omega)
  have s71 : (71 : Int32).toNatClampNeg = 71 := rfl
  have s0 : (0 : Int32).toNatClampNeg = 0 := rfl
  refine b_X3_takeBack_0 hG hP (fun _ => by rw [e71]; exact nI_pos (by omega)) (fun _ => by rw [c71, s71]; omega) (fun h => ?_) (fun h => ?_)
  · have hne : H.length ≠ 0 := fun z => h (h0.mpr z)
    obtain ⟨m, hml⟩ : ∃ m, H.length = m + 1 := ⟨H.length - 1, by omega⟩
    have hlt : m < H.length := by omega
    obtain ⟨R, hRe⟩ : ∃ R, H[m]? = some R := ⟨H[m], List.getElem?_eq_getElem hlt⟩
    have hlast : H.getLast? = some R := by rw [List.getLast?_eq_getElem?, hml]; exact hRe
    have ed : dUndo S H = (1, R, H.dropLast) := by unfold dUndo; rw [hlast]
    rw [ed, c71, s71, s0, en]
    have es : μ.1 54 0 - 1 = nI m := by rw [e0, hml, Int32.sub_eq_add_neg, nI_dec]
    rw [es]
    obtain ⟨μ1, h1⟩ : ∃ μ1, μ1 = wI (wI μ 54 0 (nI m)) 54 4 (nI ((n + 39) % 40)) := ⟨_, rfl⟩
    rw [← h1]
    have c55 : μ1.1 55 = μ.1 55 := by rw [h1, wI_ne (by decide), wI_ne (by decide)]
    have c53 : μ1.1 53 = μ.1 53 := by rw [h1, wI_ne (by decide), wI_ne (by decide)]
    have o1 : cOff (fun c => c = 53 ∨ c = 54) (fun _ => False) μ μ1 := by
      rw [h1]; exact (cOff_wI (PI := fun c => c = 53 ∨ c = 54) (PL := fun _ => False) (Or.inr rfl)).trans (cOff_wI (Or.inr rfl))
    refine ⟨rfl, ⟨(n + 39) % 40, hm, ?_, ?_, by show H.dropLast.length ≤ 40; rw [List.length_dropLast]; omega, ?_⟩, ?_, o1.trans (cOff_sI (Or.inl rfl)), fun f f0 f4 => ?_⟩
    · rw [sI_ne (by decide), h1, wI_at]
    · show _ = nI H.dropLast.length
      rw [sI_ne (by decide), h1, wI_off' (by decide), wI_at, List.length_dropLast, hml]; rfl
    · intro j Q hQ i hi
      have hQ' : H.dropLast[j]? = some Q := hQ
      rw [sI_ne (by decide), c55]
      show μ.1 55 (71 * (((n + 39) % 40 + 40 - H.dropLast.length + j) % 40) + i) = _
      rw [List.length_dropLast, hml]
      rw [List.getElem?_dropLast] at hQ'
      split at hQ'
      · next hj =>
        have := hr j Q hQ' i hi
        rw [hml] at this
        rw [show ((n + 39) % 40 + 40 - (m + 1 - 1) + j) % 40 = (n + 40 - (m + 1) + j) % 40 by omega]
        exact this
      · cases hQ'
    · rw [sI_eq, c55, c53]
      funext i
      by_cases hi : i < 71
      · rw [pk_cpy_in (by omega) (by omega)]
        have := hr m R hRe i hi
        rw [hml, show (n + 40 - (m + 1) + m) % 40 = (n + 39) % 40 by omega] at this
        rw [show i - 0 = i by omega]; exact this
      · rw [pk_cpy_out (by omega), h53]
        unfold cN
        rw [cRow_hi (by omega), cRow_hi (by omega)]
    · rw [sI_ne (by decide), h1, wI_off' f4, wI_off' f0]
  · have hnil : H = [] := List.eq_nil_of_length_eq_zero (h0.mp h)
    have ed : dUndo S H = (0, S, H) := by unfold dUndo; rw [hnil]; rfl
    rw [ed]
    exact ⟨rfl, hh, h53, cOff.refl, fun _ _ _ => rfl⟩
theorem dUndo_ok {a : aS} {B : Nat} (hk : aOK a B) : okR (dUndo (gS a) (gH a)).2.1 B := by
  unfold dUndo
  split
  · exact hk.1
  · next R hR => exact hk.2.1 R (List.mem_of_getLast? hR)
theorem c_X11_undo (hG : gGG G) {μ : jM} (hP : gPP μ) {a : aS} {B t d : Nat} (hc : cJ G a B t d μ) (hk : aOK a B) : jC0 l mX11_undo 2 G [.ref 0] μ (pI fun z μ' => z = (dUndo (gS a) (gH a)).1 ∧ cJ G (aSH a (dUndo (gS a) (gH a)).2.1 (dUndo (gS a) (gH a)).2.2) B t d μ' ∧ gPP μ' ∧ hiC μ μ') := by
  refine jC0.of' (ls := [.ref 0]) rfl rfl rfl (fun _ _ => Nat.le_of_ble_eq_true rfl) ?_
  have hf := hc.1
  have hB := hf.2.2.1.2.1
  refine b_X11_undo_0 hG hP (c_X1_outdate hG hP) ?_
  rintro μ1 rfl
  have hP1 : gPP (wI μ 57 2 (-1)) := hP
  have o1 : cOff (fun c => c = 57) (fun _ => False) μ (wI μ 57 2 (-1)) := cOff_wI rfl
  have hh1 : histC (wI μ 57 2 (-1)) (gT a) (gH a) := by have := hc.2.2.2.2.1; unfold histC at this ⊢; rw [wI_ne (by decide), wI_ne (by decide)]; exact this
  refine b_X11_undo_7 (μ := wI μ 57 2 (-1)) hG hP1 (c_X3_takeBack (S := gS a) hG hP1 hh1 (by rw [wI_ne (by decide)]; exact hf.2.1)) ?_
  rintro z μ2 ⟨rfl, hh2, h53, ho2, hf2⟩
  have hP2 := ho2.gPP hP1
  have hs2 : slotC μ2 (gT a) (gHs a) (gSl a) := by
    have := hc.2.2.2.2.2.1
    unfold slotC at this ⊢
    rw [hf2 1 (by decide) (by decide), ho2.2.1 56 (by decide), wI_ne (by decide), wI_ne (by decide)]; exact this
  obtain ⟨q1, q2⟩ := cJ_set (μ' := μ2) (B' := B) hc ((o1.mono (fun c hc => by unfold pcI; omega) (fun c hc => hc)).trans (ho2.mono (fun c hc => by unfold pcI; omega) (fun c hc => hc))) h53 (dUndo_ok hk) hB (anI_out (by rw [ho2.2.1 57 (by decide), wI_at])) hh2 hs2
  refine b_X11_undo_18 hG hP2 ⟨rfl, q1, hP2, q2⟩ ?_
  unfold dUndo
  split
  · exact Or.inl rfl
  · exact Or.inr rfl
theorem c_X11_hold (hG : gGG G) {μ : jM} (hP : gPP μ) {a : aS} {B t d : Nat} (hc : cJ G a B t d μ) (hk : aOK a B) (x : Int32) : jC0 l mX11_hold 2 G [.ref 0, .int x] μ (pI fun z μ' => z = (dHold a x).1 ∧ cJ G (dHold a x).2 B t d μ' ∧ gPP μ' ∧ hiC μ μ') := by
  refine jC0.of' (ls := [.ref 0, .int x]) rfl rfl rfl (fun _ _ => Nat.le_of_ble_eq_true rfl) ?_
  have hf := hc.1
  have hB := hf.2.2.1.2.1
  obtain ⟨e1, hsl⟩ := id hc.2.2.2.2.2.1
  have hcall : jC0 l mX3_fillSlot 1 G [.ref 54, .int x, .ref 52] μ (pI fun z μ' => (z = 0 ∨ z = 1) ∧ z = (dHold a x).1 ∧ cJ G (dHold a x).2 B t d μ' ∧ gPP μ' ∧ hiC μ μ') := by
    refine jC0.of' (ls := [.ref 54, .int x, .ref 52]) rfl rfl rfl (fun _ _ => Nat.le_of_ble_eq_true rfl) ?_
    have no : ¬ isN x 3 → ((0 : Int32) = 0 ∨ (0 : Int32) = 1) ∧ (0 : Int32) = (dHold a x).1 ∧ cJ G (dHold a x).2 B t d μ ∧ gPP μ ∧ hiC μ μ := fun h => by
      have e0 : dHold a x = (0, a) := if_neg h
      rw [e0]; exact ⟨Or.inl rfl, rfl, hc, hP, hiC.refl⟩
    have ok : ¬ x < 0 → x < 3 → isN x 3 := fun h0 h1 => isN_of (n := 3) (by decide) h0 (fun z => by rw [i32_le, show (nI 3).toInt = 3 from rfl] at z; rw [i32_lt, show (3 : Int32).toInt = 3 from rfl] at h1; omega)
    have ix : ∀ s : Nat, nI s * 71 = nI (71 * s) := fun s => by rw [show (71 : Int32) = nI 71 from rfl, pk_mul, Nat.mul_comm]
    refine b_X3_fillSlot_0 hG hP (fun h => no (isN_lt h (by decide))) (fun h0 h1 => ?_) (fun h0 h1 => ?_) (fun h0 h1 => ?_) (fun h0 h1 => no (fun z => h1 (by obtain ⟨s, hs, rfl⟩ := z; rw [i32_lt, nI_toInt (by omega), show (3 : Int32).toInt = 3 from rfl]; omega)))
    · obtain ⟨s, hs, rfl⟩ := ok h0 h1
      rw [ix]; exact nI_pos (by omega)
    · obtain ⟨s, hs, rfl⟩ := ok h0 h1
      rw [ix, nI_clamp (by omega), show (71 : Int32).toNatClampNeg = 71 from rfl]; omega
    · obtain ⟨s, hs, rfl⟩ := ok h0 h1
      have cs : (nI s).toNatClampNeg = s := nI_clamp (by omega)
      have e0 : dHold a (nI s) = (1, aHo a (upB (gHs a) s) (upR (gSl a) s (gS a))) := by unfold dHold; rw [if_pos ⟨s, hs, rfl⟩, cs]
      rw [e0, ix, nI_clamp (by omega), show (71 : Int32).toNatClampNeg = 71 from rfl, show (0 : Int32).toNatClampNeg = 0 from rfl, e1, hsN_up hs]
      obtain ⟨C, hC⟩ : ∃ C, C = va_cpy (μ.1 53) (μ.1 56) 0 (71 * s) 71 := ⟨_, rfl⟩
      rw [← hC]
      have ow : cOff pcI (fun _ => False) μ (wI (sI μ 56 C) 54 1 (nI (hsN (upB (gHs a) s)))) := (cOff_sI (PI := pcI) (PL := fun _ => False) (by unfold pcI; omega)).trans (cOff_wI (by unfold pcI; omega))
      obtain ⟨q1, q2⟩ := cJ_set (μ' := wI (sI μ 56 C) 54 1 (nI (hsN (upB (gHs a) s)))) (S' := gS a) (H' := gH a) (hs' := upB (gHs a) s) (sl' := upR (gSl a) s (gS a)) (B' := B) hc ow (by rw [wI_ne (by decide), sI_ne (by decide)]; exact hf.2.1) hk.1 hB (by
        have := hc.2.2.2.2.2.2.2.2.2
        unfold anI at this ⊢
        rw [wI_ne (by decide), wI_ne (by decide), wI_ne (by decide), sI_ne (by decide), sI_ne (by decide), sI_ne (by decide)]; exact this) (by
        have := hc.2.2.2.2.1
        obtain ⟨n, hn, k1, k2, k3, k4⟩ := this
        exact ⟨n, hn, by rw [wI_off' (by decide), sI_ne (by decide)]; exact k1, by rw [wI_off' (by decide), sI_ne (by decide)]; exact k2, k3, fun j R hR i hi => by rw [wI_ne (by decide), sI_ne (by decide)]; exact k4 j R hR i hi⟩) ⟨by rw [wI_at], fun u hu hh i hi => by
          rw [wI_ne (by decide), sI_eq]
          by_cases e : u = s
          · subst e
            rw [hC, pk_cpy_in (by omega) (by omega), hf.2.1]
            have : upR (gSl a) u (gS a) u = gS a := by simp [upR]
            rw [this]
            unfold cN
            congr 1; omega
          · have eb : upB (gHs a) s u = gHs a u := by simp [upB, e]
            have er : upR (gSl a) s (gS a) u = gSl a u := by simp [upR, e]
            rw [er, hC, pk_cpy_out (by omega)]
            rw [eb] at hh
            exact hsl u hu hh i hi⟩
      exact ⟨Or.inr rfl, rfl, q1, hP, q2⟩
  refine b_X11_hold_0 hG hP hcall ?_
  rintro z μ1 ⟨h01, rfl, h1, h2, h3⟩
  exact b_X11_hold_12 hG h2 ⟨rfl, h1, h2, h3⟩ h01
theorem c_X11_restore (hG : gGG G) {μ : jM} (hP : gPP μ) {a : aS} {B t d : Nat} (hc : cJ G a B t d μ) (hk : aOK a B) (x : Int32) : jC0 l mX11_restore 2 G [.ref 0, .int x] μ (pI fun z μ' => z = (dRest a x).1 ∧ cJ G (dRest a x).2 B t d μ' ∧ gPP μ' ∧ hiC μ μ') := by
  refine jC0.of' (ls := [.ref 0, .int x]) rfl rfl rfl (fun _ _ => Nat.le_of_ble_eq_true rfl) ?_
  have hf := hc.1
  have hB := hf.2.2.1.2.1
  refine b_X11_restore_0 hG hP (c_X1_outdate hG hP) ?_
  rintro μ1 rfl
  have hP1 : gPP (wI μ 57 2 (-1)) := hP
  have o1 : cOff pcI (fun _ => False) μ (wI μ 57 2 (-1)) := cOff_wI (by unfold pcI; omega)
  have st1 : cJ G a B t d (wI μ 57 2 (-1)) ∧ hiC μ (wI μ 57 2 (-1)) := by
    have := cJ_set (μ' := wI μ 57 2 (-1)) (S' := gS a) (H' := gH a) (hs' := gHs a) (sl' := gSl a) (B' := B) hc o1 (by rw [wI_ne (by decide)]; exact hf.2.1) hk.1 hB (anI_out (by rw [wI_at])) (by have := hc.2.2.2.2.1; unfold histC at this ⊢; rw [wI_ne (by decide), wI_ne (by decide)]; exact this) (by have := hc.2.2.2.2.2.1; unfold slotC at this ⊢; rw [wI_ne (by decide), wI_ne (by decide)]; exact this)
    exact this
  obtain ⟨e1, hsl⟩ := id st1.1.2.2.2.2.2.1
  obtain ⟨μ1, hμ1⟩ : ∃ μ1, μ1 = wI μ 57 2 (-1) := ⟨_, rfl⟩
  have h57 : μ1.1 57 2 = -1 := by rw [hμ1, wI_at]
  rw [← hμ1] at hP1 st1 e1 hsl ⊢
  have hcall : jC0 l mX3_useSlot 1 G [.ref 54, .int x, .ref 52] μ1 (pI fun z μ' => (z = 0 ∨ z = 1) ∧ z = (dRest a x).1 ∧ cJ G (dRest a x).2 B t d μ' ∧ gPP μ' ∧ hiC μ μ') := by
    refine jC0.of' (ls := [.ref 54, .int x, .ref 52]) rfl rfl rfl (fun _ _ => Nat.le_of_ble_eq_true rfl) ?_
    have no : ¬ (isN x 3 ∧ gHs a x.toNatClampNeg = true) → ((0 : Int32) = 0 ∨ (0 : Int32) = 1) ∧ (0 : Int32) = (dRest a x).1 ∧ cJ G (dRest a x).2 B t d μ1 ∧ gPP μ1 ∧ hiC μ μ1 := fun h => by
      have e0 : dRest a x = (0, a) := if_neg h
      rw [e0]; exact ⟨Or.inl rfl, rfl, st1.1, hP1, st1.2⟩
    have ok : ¬ x < 0 → ¬ (3 : Int32) ≤ x → isN x 3 := fun h0 h1 => isN_of (n := 3) (by decide) h0 h1
    have ix : ∀ s : Nat, nI s * 71 = nI (71 * s) := fun s => by rw [show (71 : Int32) = nI 71 from rfl, pk_mul, Nat.mul_comm]
    refine b_X3_useSlot_0 hG hP1 (fun h => no (fun z => isN_lt h (by decide) z.1)) (fun _ h => no (fun z => isN_ge (n := 3) (by decide) h z.1)) (fun h0 h1 _ => ?_) (fun h0 h1 _ => ?_) (fun h0 h1 h2 => ?_) (fun h0 h1 h2 => no (fun z => ?_))
    · obtain ⟨s, hs, rfl⟩ := ok h0 h1
      rw [ix]; exact nI_pos (by omega)
    · obtain ⟨s, hs, rfl⟩ := ok h0 h1
      rw [ix, nI_clamp (by omega), show (71 : Int32).toNatClampNeg = 71 from rfl]; omega
    · obtain ⟨s, hs, rfl⟩ := ok h0 h1
      have cs : (nI s).toNatClampNeg = s := nI_clamp (by omega)
      rw [e1, hsN_bit hs] at h2
      have hb : gHs a s = true := Classical.not_not.mp h2
      have e0 : dRest a (nI s) = (1, aSH a (gSl a s) []) := by unfold dRest; rw [if_pos ⟨⟨s, hs, rfl⟩, by rw [cs]; exact hb⟩, cs]
      rw [e0, ix, nI_clamp (by omega), show (71 : Int32).toNatClampNeg = 71 from rfl, show (0 : Int32).toNatClampNeg = 0 from rfl]
      obtain ⟨C, hC⟩ : ∃ C, C = va_cpy (μ1.1 56) (μ1.1 53) (71 * s) 0 71 := ⟨_, rfl⟩
      rw [← hC]
      have ow : cOff pcI (fun _ => False) μ1 (wI (sI μ1 53 C) 54 0 0) := (cOff_sI (PI := pcI) (PL := fun _ => False) (by unfold pcI; omega)).trans (cOff_wI (by unfold pcI; omega))
      have hokS := hk.2.2.1 s hs hb
      obtain ⟨q1, q2⟩ := cJ_set (μ' := wI (sI μ1 53 C) 54 0 0) (S' := gSl a s) (H' := []) (hs' := gHs a) (sl' := gSl a) (B' := B) st1.1 ow (by
        rw [wI_ne (by decide), sI_eq, hC]
        funext i
        by_cases hi : i < 71
        · rw [pk_cpy_in (by omega) (by omega), show i - 0 = i by omega]; exact hsl s hs hb i hi
        · rw [pk_cpy_out (by omega), st1.1.1.2.1]
          unfold cN
          rw [cRow_hi (by omega), cRow_hi (by omega)]) hokS hB (anI_out (by rw [wI_ne (by decide), sI_ne (by decide)]; exact h57)) (by
        obtain ⟨n, hn, k1, k2, k3, k4⟩ := st1.1.2.2.2.2.1
        exact ⟨n, hn, by rw [wI_off' (by decide), sI_ne (by decide)]; exact k1, by rw [wI_at]; rfl, Nat.zero_le _, fun j R hR => by cases hR⟩) ⟨by rw [wI_off' (by decide), sI_ne (by decide)]; exact e1, fun u hu hh i hi => by rw [wI_ne (by decide), sI_ne (by decide)]; exact hsl u hu hh i hi⟩
      exact ⟨Or.inr rfl, rfl, q1, hP1, st1.2.trans q2⟩
    · obtain ⟨s, hs, rfl⟩ := ok h0 h1
      have cs : (nI s).toNatClampNeg = s := nI_clamp (by omega)
      rw [e1, hsN_bit hs] at h2
      have := z.2
      rw [cs] at this
      exact h2 this
  refine b_X11_restore_7 hG hP1 hcall ?_
  rintro z μ2 ⟨h01, rfl, h1, h2, h3⟩
  exact b_X11_restore_19 hG h2 ⟨rfl, h1, h2, h3⟩ h01
end ClsG
