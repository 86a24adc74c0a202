/-! THE CLASS: walk -/
theorem alg1 (x c n p : Int32) : x + (c - n) + p = x + (c - (n - p)) := by
  simp only [Int32.sub_eq_add_neg, Int32.neg_add, Int32.neg_neg]
  ac_rfl
theorem cRow_G1 {T : sT} {a k j : Nat} {p od lots th : Int32} {S : sR} (ha : a < 7) (hk : k < 12) : cRow (sG1 T a k p S) od lots th j = cRow S od lots th j + (if j = 31 + k then p else 0) + (if j = 43 + a then p else 0) + (if j = 3 then p else 0) + (if j = 7 + k then 1 else 0) + (if T 4 k = 1 ∧ j = 19 + k then 1 else 0) + (if T 4 k = 1 ∧ j = 64 + a then 1 else 0) := by
  have e1 : cix (24 + k) = 31 + k := by rw [cix_lo (by omega)]; omega
  have e2 : cix (36 + a) = 43 + a := by rw [cix_lo (by omega)]; omega
  have e3 : cix 66 = 3 := rfl
  have e4 : cix k = 7 + k := by rw [cix_lo (by omega)]; omega
  have e5 : cix (12 + k) = 19 + k := by rw [cix_lo (by omega)]; omega
  have e6 : cix (57 + a) = 64 + a := by rw [cix_lo (by omega)]; omega
  unfold sG1
  by_cases h : T 4 k = 1
  · rw [if_pos h, cRow_add (by omega), cRow_add (by omega), cRow_add (by omega), cRow_add (by omega), cRow_add (by omega), cRow_add (by omega), e1, e2, e3, e4, e5, e6]
    simp only [addR_ap, h, true_and]
  · rw [if_neg h, cRow_add (by omega), cRow_add (by omega), cRow_add (by omega), cRow_add (by omega), e1, e2, e3, e4]
    simp only [addR_ap, h, false_and, if_false, Int32.add_zero]
def wkI (r n c : Nat) : Prop := c = r ∨ c = 12 ∨ ∃ a, a < n ∧ c = 17 + 5 * a
section WalkC
variable {l : Launch} {G : jG}
set_option maxHeartbeats 2000000 in
theorem c_X10_walk (hG : gGG G) {μ : jM} (hP : gPP μ) {t r a B : Nat} {T : sT} {Lw : Nat → sLaw} {S E : sR} {W : List Nat} {od lots th : Int32} (hS : enS G μ t r T Lw S od lots th B) (ha : a < T 0 2) (hI : sDs T Lw lots od S a (T 5 a) < INF) (hdb : μ.1 (17 + 5 * a) 1 = 0) (hwy : wyC μ (17 + 5 * a) T (sPr T Lw S lots od a) (T 6 a) (T 5 a)) (hWe : W = sWl T Lw lots od S a) (hE : E = sGo T (sOw T Lw S lots od a) a W (nI (T 8 a)) (addR S (43 + a) 1)) (hgE : rgS E B) :
    jC0 l mX10_walk 2 G [.ref 12, .int (nI a)] μ (pV fun μ' => enS G μ' t r T Lw E od lots th B ∧ cOff (wkI r (T 0 2)) (fun _ => False) μ μ' ∧ (∀ f, f ≠ 2 → f ≠ 4 → μ'.1 12 f = μ.1 12 f) ∧ ∀ i, i < 32 → bt (μ'.1 12 2) i = (bt (μ.1 12 2) i || decide (i ∈ W ∧ T 4 i = 1))) := by
  refine jC0.of' (ls := [.ref 12, .int (nI a), .null, .null, .null, .null, .null, .null, .null, .null]) rfl rfl rfl (fun _ _ => Nat.le_of_ble_eq_true rfl) ?_
  obtain ⟨hA, hD, hWs⟩ := id hS
  obtain ⟨hW, hr, ⟨hg, hB, hrt⟩, hn, hb⟩ := id hA
  obtain ⟨ht, q0, q5, hr3, hgr, hx, hkc⟩ := id hW
  have hv := hx.2.2.2.2.2
  have h12 := hv.1.2.1
  have h7 := hv.1.2.2.1
  have ht2 := hx.1
  have ha7 : a < 7 := by omega
  have hy := tO_way hG hP ha7
  obtain ⟨y, hye⟩ : ∃ y, y = 17 + 5 * a := ⟨_, rfl⟩
  have hwa := hWs a ha
  rw [← hye] at hy hdb hwy hwa
  have hwr : μ.2.2 13 (nI a).toNatClampNeg = some y := by rw [nI_clamp (by omega), hye]; exact way_ref hP ha7
  have ia : vp_in (nI a) 7 := vp_in_nI ha7 (by decide)
  have ca : (nI a).toNatClampNeg = a := nI_clamp (by omega)
  have i43 : (43 : Int32) + nI a = nI (43 + a) := nI_add 43 a
  have i50 : (50 : Int32) + nI a = nI (50 + a) := nI_add 50 a
  have i64 : (64 : Int32) + nI a = nI (64 + a) := nI_add 64 a
  have c43 : (nI (43 + a)).toNatClampNeg = 43 + a := nI_clamp (by omega)
  have c50 : (nI (50 + a)).toNatClampNeg = 50 + a := nI_clamp (by omega)
  have c64 : (nI (64 + a)).toNatClampNeg = 64 + a := nI_clamp (by omega)
  have hWin : ∀ k ∈ W, k < T 0 1 := by rw [hWe]; exact (sWl_in hv hI).2
  have hW8 : W.length ≤ 8 := by rw [hWe]; exact (sWl_in hv hI).1
  have hWup : ∀ k ∈ W, ¬ sDn T Lw S k := by rw [hWe]; exact sWl_up hv hI
  have hw' : μ.1 y 5 = nI W.length ∧ (∀ (j q : Nat), W[j]? = some q → μ.1 (y + 3) j = nI q) ∧ μ.1 y 7 = bitsW W 0 := by
    rcases hwy.2 with ⟨-, z1, z2, z3⟩ | ⟨z, -⟩
    · rw [hWe]; exact ⟨z1, z2, z3⟩
    · exact absurd hI z
  obtain ⟨w5, w3, w7⟩ := hw'
  obtain ⟨ow, hoe⟩ : ∃ ow, ow = sOw T Lw S lots od a := ⟨_, rfl⟩
  have how : ∀ k ∈ W, μ.1 (y + 2) k = ow k := fun k hk => by
    rw [hoe]; exact (hwa.2 k (hWin k hk) (by rw [hdb, b_0])).2 (hWup k hk)
  have hown : ∀ k, ∃ m, m ≤ 99 ∧ ow k = nI m := fun k => by
    rw [hoe]; unfold sOw
    split
    · obtain ⟨m, h1, h2, -⟩ := sOwes_in (T := T) (Lw := Lw) (S := S) (lots := lots) (od := od) (a := a) (k := k); exact ⟨m, h1, h2⟩
    · exact ⟨0, by decide, rfl⟩
  rw [← hoe] at hE
  have t8 := (hv.2.2.1 a ha).2.2.2.2.1
  have g8 : ∀ μ1 : jM, cOff (fun c => c = r ∨ c = 12) (fun _ => False) μ μ1 → μ1.1 (t + 7) a = nI (T 8 a) := fun μ1 ho => by rw [ho.2.1 (t + 7) (by omega)]; exact (hx.2.2.2.1 a ha).2.2.2.1
  obtain ⟨wS, hwSe⟩ : ∃ wS : Nat → Nat, wS = fun i => (S i).toNatClampNeg := ⟨_, rfl⟩
  have hB' : B ≤ 2 ^ 18 := hB
  have hwS : ∀ i, i < 12 → S i = nI (wS i) ∧ wS i ≤ 56 * B := fun i hi => by
    obtain ⟨w, h1, h2⟩ := hg.2 i (by omega)
    have : wS i = w := by rw [hwSe]; show (S i).toNatClampNeg = w; rw [h2]; exact nI_clamp (by omega)
    rw [this]; exact ⟨h2, h1⟩
  have hb14 : ∀ μ1 : jM, cOff (fun c => c = r ∨ c = 12) (fun _ => False) μ μ1 → ∀ k, k < T 0 1 → μ1.1 14 k = sBears T Lw S k := fun μ1 ho k hk => by rw [ho.2.1 14 (by omega)]; exact hb.1 k hk
  -- what a ROAD bears, as a number
  have hbn : ∀ k, ∃ m, m ≤ 999 ∧ sBears T Lw S k = nI m := fun k => by
    unfold sBears lawV
    obtain ⟨h1, h2⟩ := sHeld_in (most := 999) (by decide) (lE (vrB T S k) (Lw 2))
    obtain ⟨m, h3, h4, -⟩ := of_in (n := 999) h1 h2
    exact ⟨m, h3, h4⟩
  obtain ⟨φ, hφ⟩ : ∃ φ : jM → Prop, φ = fun μ' => enS G μ' t r T Lw E od lots th B ∧ cOff (wkI r (T 0 2)) (fun _ => False) μ μ' ∧ (∀ f, f ≠ 2 → f ≠ 4 → μ'.1 12 f = μ.1 12 f) ∧ ∀ i, i < 32 → bt (μ'.1 12 2) i = (bt (μ.1 12 2) i || decide (i ∈ W ∧ T 4 i = 1)) := ⟨_, rfl⟩
  rw [← hφ]
  -- the end
  have fin : ∀ (μ1 : jM) (worn : Int32), cOff (fun c => c = r ∨ c = 12) (fun _ => False) μ μ1 → (∀ f, f ≠ 2 → μ1.1 12 f = μ.1 12 f) → (∀ i, i < 32 → bt (μ1.1 12 2) i = (bt (μ.1 12 2) i || decide (i ∈ W ∧ T 4 i = 1))) → (∀ i, i < 12 → E i = nI (wS i + cnt W i)) → (∀ i, i < 32 → (bt worn i = true ↔ (i ∈ W ∧ sBears T Lw S i ≤ E i))) →
      jC0 l mX10_doubt 0 G [.ref 12, .int worn] (wI (sI μ1 r (cRow E od lots th)) 12 4 (μ.1 12 4 ||| worn)) (pV fun μ2 => J l mX10_walk (jZ0 2 G (pV φ)) G 0 0 241 [.ref 12, .null, .ref y, .null, .null, .null, .null, .null, .null, .null] [] μ2) := by
    intro μ1 worn ho1 hf1 hs1 hwE hworn
    have hoM : cOff (fun c => c = r ∨ c = 12) (fun _ => False) μ (wI (sI μ1 r (cRow E od lots th)) 12 4 (μ.1 12 4 ||| worn)) := (ho1.trans (cOff_sI (Or.inl rfl))).trans (cOff_wI (Or.inr rfl))
    have nr : r ≠ 12 := by omega
    have hMr : (wI (sI μ1 r (cRow E od lots th)) 12 4 (μ.1 12 4 ||| worn)).1 r = cRow E od lots th := by rw [wI_ne nr, sI_eq]
    have hM4 : (wI (sI μ1 r (cRow E od lots th)) 12 4 (μ.1 12 4 ||| worn)).1 12 4 = μ.1 12 4 ||| worn := wI_at
    have hMf : ∀ f, f ≠ 4 → (wI (sI μ1 r (cRow E od lots th)) 12 4 (μ.1 12 4 ||| worn)).1 12 f = μ1.1 12 f := fun f hf => by rw [wI_off' hf, sI_ne nr.symm]
    generalize wI (sI μ1 r (cRow E od lots th)) 12 4 (μ.1 12 4 ||| worn) = M at hoM hMr hM4 hMf
    have hkM := kcI_low hoM ht2 (fun c hc => by omega) (fun c hc => hc.elim) hkc
    have hWM : wdC G M t r T Lw := wdC_off hoM hkM (fun c hc => by omega) (fun c hc => hc.elim) hW
    have hPM := hoM.gPP hP
    refine (c_X10_doubt hG hPM hWM.1 hWM.2.1 ht2 hWM.2.2.2.2.2.1.2.1.2.2.1 h7 worn).mono (pV_mono ?_)
    rintro μ2 ⟨ho2, hw2⟩
    have hP2 := ho2.gPP hPM
    have hk2 := kcI_low ho2 ht2 (by rintro c ⟨b, h1, h2⟩; omega) (fun c hc => hc.elim) hkM
    have hW2 : wdC G μ2 t r T Lw := wdC_off ho2 hk2 (by rintro c ⟨b, h1, h2⟩; omega) (fun c hc => hc.elim) hWM
    refine b_X10_walk_241 hG hP2 (hoM.tO hy |> ho2.tO) (c_X10_doubtBy hG hP2 hW2 _ _) ?_
    rintro μ3 ⟨D2, ⟨ho3, hw3⟩, hD2⟩
    refine b_X10_walk_252 hG (ho3.gPP hP2) ?_
    have n12 : ¬ ∃ a, a < T 0 2 ∧ 12 = 17 + 5 * a := by rintro ⟨b, h1, h2⟩; omega
    have nrw : ¬ ∃ a, a < T 0 2 ∧ r = 17 + 5 * a := by rintro ⟨b, h1, h2⟩; omega
    have nt : ¬ ∃ a, a < T 0 2 ∧ t = 17 + 5 * a := by rintro ⟨b, h1, h2⟩; omega
    have ho : cOff (wkI r (T 0 2)) (fun _ => False) μ μ3 := ((hoM.mono (fun c hc => hc.elim Or.inl (fun z => Or.inr (Or.inl z))) (fun c hc => hc)).trans (ho2.mono (fun c hc => Or.inr (Or.inr hc)) (fun c hc => hc))).trans (ho3.mono (fun c hc => Or.inr (Or.inr hc)) (fun c hc => hc))
    have e12 : μ3.1 12 = M.1 12 := by rw [ho3.2.1 12 n12, ho2.2.1 12 n12]
    have eL : μ3.2.1 12 = μ.2.1 12 := ho.2.2 12 (fun z => z)
    have hk3 := kcI_low ho3 ht2 (by rintro c ⟨b, h1, h2⟩; omega) (fun c hc => hc.elim) hk2
    have hW3 : wdC G μ3 t r T Lw := wdC_off ho3 hk3 (by rintro c ⟨b, h1, h2⟩; omega) (fun c hc => hc.elim) hW2
    have hr3' : μ3.1 r = cRow E od lots th := by rw [ho3.2.1 r nrw, ho2.2.1 r nrw, hMr]
    have hkeep : ∀ j, j = 64 ∨ j = 65 ∨ j = 67 → E j = S j := fun j hj => by
      rw [hE, sGo_keep ha7 hj _ _ _ (fun k hk => by have := hWin k hk; omega), addR_ne (by omega)]
    have u64 := hkeep 64 (by decide)
    have u65 := hkeep 65 (by decide)
    have u67 := hkeep 67 (by decide)
    have hdn : ∀ i, i < T 0 1 → (sDn T Lw E i ↔ (bt (μ.1 12 4) i = true ∨ bt worn i = true)) := by
      intro i hi
      obtain ⟨e1, b1⟩ := hwS i (by omega)
      obtain ⟨m, hm, em⟩ := hbn i
      have hc8 := cnt_le W i
      have dn1 : sDn T Lw E i ↔ m ≤ wS i + cnt W i := by
        unfold sDn; rw [sBears_congr u67, em, hwE i (by omega)]; exact nI_leI (by omega) (by omega)
      have dn0 : sDn T Lw S i ↔ m ≤ wS i := by
        unfold sDn; rw [em, e1]; exact nI_leI (by omega) (by omega)
      have hDi := hD i (by omega)
      have hwi := hworn i (by omega)
      rw [em, hwE i (by omega), nI_leI (by omega) (by omega)] at hwi
      rw [dn1, hwi, hDi, dn0]
      constructor
      · intro h
        by_cases z : m ≤ wS i
        · exact Or.inl ⟨hi, z⟩
        · exact Or.inr ⟨cnt_pos.mp (by omega), h⟩
      · rintro (⟨-, h⟩ | ⟨-, h⟩)
        · omega
        · exact h
    rw [hφ]
    refine ⟨⟨⟨hW3, hr3', ⟨hgE, hB, by unfold rtS; rw [u65]; exact hrt⟩, ?_, ?_⟩, ?_, fun b hb' => ?_⟩, ho, fun f h2 h4 => ?_, fun i hi => ?_⟩
    · refine nkS_off (μ := μ) (by rw [e12, hMf 1 (by decide), hf1 1 (by decide)]) (by rw [eL]) ?_
      obtain ⟨n, f, g1, g2, g3, g4, g5⟩ := hn
      exact ⟨n, f, by rw [u67]; exact g1, g2, g3, by unfold sFg; rw [u67]; exact g4, g5⟩
    · refine brS_off (μ := μ) (ho.2.1 14 (by rintro (h | h | ⟨b, h1, h2⟩) <;> omega)) (by rw [eL]) ?_
      obtain ⟨g0, n, f, g1, g2, g3, g4⟩ := hb
      exact ⟨fun k hk => by rw [sBears_congr u67]; exact g0 k hk, n, f, by rw [u67]; exact g1, g2, g3, g4⟩
    · intro i hi
      rw [e12, hM4, b_or, Bool.or_eq_true]
      constructor
      · intro h
        have hin : i < T 0 1 := by
          rcases h with h | h
          · exact ((hD i hi).mp h).1
          · exact hWin i ((hworn i hi).mp h).1
        exact ⟨hin, (hdn i hin).mpr h⟩
      · rintro ⟨h1, h2⟩; exact (hdn i h1).mp h2
    · have c1 : ∀ i, 1 ≤ i → i ≤ 4 → μ3.1 (17 + 5 * b + i) = μ.1 (17 + 5 * b + i) := fun i hi hi4 => ho.2.1 _ (by rintro (h | h | ⟨b', h1, h2⟩) <;> omega)
      have hM0 : M.1 (17 + 5 * b) = μ.1 (17 + 5 * b) := hoM.2.1 _ (by omega)
      have hfull : μ3.1 (17 + 5 * b) = upd (μ.1 (17 + 5 * b)) 1 (μ.1 (17 + 5 * b) 1 ||| (worn ||| D2)) := by
        rw [hw3 b hb', hw2 b hb', hM0, upd_at, upd_upd, Int32.or_assoc]
      refine ⟨wyK_up1 hfull (c1 1 (by decide) (by decide)) (c1 3 (by decide) (by decide)) (hWs b hb').1, fun k hk hbt => ?_⟩
      rw [hfull, upd_at, b_or, b_or, Bool.or_eq_false_iff, Bool.or_eq_false_iff] at hbt
      obtain ⟨z1, z2, z3⟩ := hbt
      have hold := (hWs b hb').2 k hk z1
      have hDk := hD2 k (by omega)
      have e4 : μ2.1 r 4 = S 64 := by rw [ho2.2.1 r nrw, hMr, ← u64]; rfl
      have e6 : μ2.1 t 6 = μ.1 t 6 := by rw [ho2.2.1 t nt, hoM.2.1 t (by omega)]
      have e7 : μ2.1 y 7 = bitsW W 0 := by rw [hye, hw2 a ha, upd_ne (by decide), hoM.2.1 _ (by omega), ← hye]; exact w7
      rw [z3, e4, e6, e7, b_bitsW _ _ _ (fun j hj => by have := hWin j hj; omega) (by omega), b_0, Bool.false_or, decide_eq_true_iff] at hDk
      have hdk : sDn T Lw E k ↔ sDn T Lw S k := by
        rw [hdn k hk, z2, hD k (by omega)]
        constructor
        · rintro (h | h)
          · exact h.2
          · cases h
        · intro h; exact Or.inl ⟨hk, h⟩
      have hsame : k ∉ W → E k = S k := fun hkW => by
        rw [hwE k (by omega), (hwS k (by omega)).1]
        have : cnt W k = 0 := by
          rcases Nat.eq_zero_or_pos (cnt W k) with h | h
          · exact h
          · exact absurd (cnt_pos.mp h) hkW
        rw [this, Nat.add_zero]
      have hgt : sGt E k ↔ sGt S k := by unfold sGt; rw [u64]
      have hnot : ∀ q, q < 2 → (16777215 : Int64) &&& mkL q (Lw q) = 0 → uL (Lw q) 6 = false := by
        intro q hq hz
        have := wear_mask _ _ _ _ hz
        have hvs : vsQ q 6 = true := by unfold vsQ; rw [if_neg (by omega)]; rfl
        rw [hvs, Bool.and_true] at this
        exact this
      obtain ⟨p1, p2⟩ := prow_congr (T := T) (Lw := Lw) (lots := lots) (od := od) (lots' := lots) (od' := od) (a := b) hdk hgt (fun hgk => by
        by_cases hkW : k ∈ W
        · have hz : (16777215 : Int64) &&& mkL 0 (Lw 0) = 0 := Classical.byContradiction (fun z => absurd (hDk.mpr ⟨Or.inl ⟨z, (sGt_bt (by omega)).mp hgk⟩, hkW⟩) (by decide))
          exact law_wear (hnot 0 (by decide) hz) u65 u67
        · exact sOwes_congr u65 u67 (hsame hkW)) (fun hfk => by
        by_cases hkW : k ∈ W
        · have hfb : bt (μ.1 t 6) k = true := by
            have g4 := (hx.2.2.1 k hk).2.2.2
            rw [hfk] at g4
            exact (sh1_1 (by omega) (μ.1 t 6)).mp g4
          have hz : (16777215 : Int64) &&& mkL 1 (Lw 1) = 0 := Classical.byContradiction (fun z => absurd (hDk.mpr ⟨Or.inr ⟨z, hfb⟩, hkW⟩) (by decide))
          exact law_wear (hnot 1 (by decide) hz) u65 u67
        · exact sFears_congr u65 u67 (hsame hkW))
      unfold prE at hold ⊢
      rw [c1 1 (by decide) (by decide), c1 2 (by decide) (by decide), p1, p2, hdk]
      exact hold
    · rw [e12, hMf f h4, hf1 f h2]
    · rw [e12, hMf 2 (by decide)]; exact hs1 i hi
  have loop : ∀ (W2 W1 : List Nat) (cn : Nat) (Si : sR) (worn : Int32) (μ1 : jM), W = W1 ++ W2 → E = sGo T ow a W2 (nI cn) Si → cn ≤ 99 → cOff (fun c => c = r ∨ c = 12) (fun _ => False) μ μ1 → (∀ f, f ≠ 2 → μ1.1 12 f = μ.1 12 f) → (∀ i, i < 32 → bt (μ1.1 12 2) i = (bt (μ.1 12 2) i || decide (i ∈ W1 ∧ T 4 i = 1))) →
      (∀ j, j ≠ 3 → j ≠ 43 + a → j ≠ 50 + a → μ1.1 r j = cRow Si od lots th j) → μ1.1 r 3 = S 66 → μ1.1 r (43 + a) = S (36 + a) → μ1.1 r (50 + a) = S (43 + a) → Si 66 = S 66 + (nI (T 8 a) - nI cn) → Si (36 + a) = S (36 + a) + (nI (T 8 a) - nI cn) → Si (43 + a) = S (43 + a) + 1 → (∀ i, i < 12 → Si i = nI (wS i + cnt W1 i)) → (∀ i, i < 32 → (bt worn i = true ↔ (i ∈ W1 ∧ sBears T Lw S i ≤ Si i))) →
      J l mX10_walk (jZ0 2 G (pV φ)) G 0 0 29 [.ref 12, .int (nI a), .ref y, .ref r, .int (nI cn), .int worn, .int (nI W1.length), .null, .null, .null] [] μ1 := by
    intro W2
    induction W2 with
    | nil =>
      intro W1 cn Si worn μ1 hWW hEE hcn ho1 hf1 hs1 hrow r3 r43 r50 s66 s36 s43 hwr1 hworn
      rw [List.append_nil] at hWW
      have hEE : E = Si := hEE
      subst hEE
      subst hWW
      have hP1 := ho1.gPP hP
      have hle : μ1.1 y 5 ≤ nI W.length := by rw [ho1.2.1 y (by omega), w5]; exact nI_le (Nat.le_refl _) (by omega)
      refine b_X10_walk_29 hG hP1 hgr (ho1.tO ht) (ho1.tO hy) (by rw [ho1.1]; exact q0) (fun _ => ia) (fun _ => by rw [i43]; exact vp_in_nI (by omega) (by decide)) (fun _ => by rw [i50]; exact vp_in_nI (by omega) (by decide)) (fun _ => ?_) (fun _ μ2 h => h) (fun h => absurd hle h) (fun h => absurd hle h) (fun h => absurd hle h) (fun h => absurd hle h) (fun h => absurd hle h)
      have hfin := fin μ1 worn ho1 hf1 hs1 hwr1 hworn
      have hrowE : upd (upd (upd (μ1.1 r) 3 (μ1.1 r 3 + (nI (T 8 a) - nI cn))) (43 + a) (μ1.1 r (43 + a) + (nI (T 8 a) - nI cn))) (50 + a) (μ1.1 r (50 + a) + 1) = cRow E od lots th := by
        funext j
        by_cases j50 : j = 50 + a
        · subst j50
          rw [upd_at, r50, ← s43, show 50 + a = 7 + (43 + a) by omega, cRow_w (by omega)]
        · rw [upd_ne j50]
          by_cases j43 : j = 43 + a
          · subst j43
            rw [upd_at, r43, ← s36, show 43 + a = 7 + (36 + a) by omega, cRow_w (by omega)]
          · rw [upd_ne j43]
            by_cases j3 : j = 3
            · subst j3
              rw [upd_at, r3, ← s66]; rfl
            · rw [upd_ne j3]; exact hrow j j3 j43 j50
      rw [ca, g8 μ1 ho1, i43, c43, i50, c50]
      rw [show (wI μ1 r 3 (μ1.1 r 3 + (nI (T 8 a) - nI cn))).1 r (43 + a) = μ1.1 r (43 + a) from wI_off' (by omega)]
      rw [show (wI (wI μ1 r 3 (μ1.1 r 3 + (nI (T 8 a) - nI cn))) r (43 + a) (μ1.1 r (43 + a) + (nI (T 8 a) - nI cn))).1 r (50 + a) = μ1.1 r (50 + a) from by rw [wI_off' (by omega), wI_off' (by omega)]]
      have nr : (12 : Nat) ≠ r := by omega
      rw [show (wI (wI (wI μ1 r 3 (μ1.1 r 3 + (nI (T 8 a) - nI cn))) r (43 + a) (μ1.1 r (43 + a) + (nI (T 8 a) - nI cn))) r (50 + a) (μ1.1 r (50 + a) + 1)).1 12 4 = μ.1 12 4 from by rw [wI_ne nr, wI_ne nr, wI_ne nr, hf1 4 (by decide)]]
      rw [show wI (wI (wI μ1 r 3 (μ1.1 r 3 + (nI (T 8 a) - nI cn))) r (43 + a) (μ1.1 r (43 + a) + (nI (T 8 a) - nI cn))) r (50 + a) (μ1.1 r (50 + a) + 1) = sI μ1 r (cRow E od lots th) from by rw [wI_as (μ := μ1), wI_sI, wI_sI, hrowE]]
      exact hfin
    | cons k W2 ih =>
      intro W1 cn Si worn μ1 hWW hEE hcn ho1 hf1 hs1 hrow r3 r43 r50 s66 s36 s43 hwr1 hworn
      have hP1 := ho1.gPP hP
      have hkW : k ∈ W := by rw [hWW]; simp
      have hk : k < T 0 1 := hWin k hkW
      have hlen : W1.length < W.length := by rw [hWW]; simp
      have hgt : ¬ μ1.1 y 5 ≤ nI W1.length := by rw [ho1.2.1 y (by omega), w5]; exact nI_ge hlen (by omega)
      have cl : (nI W1.length).toNatClampNeg = W1.length := nI_clamp (by omega)
      have hk3 : μ1.1 (y + 3) (nI W1.length).toNatClampNeg = nI k := by
        rw [cl, ho1.2.1 (y + 3) (by omega)]
        exact w3 _ _ (by rw [hWW]; simp)
      have ck : (nI k).toNatClampNeg = k := nI_clamp (by omega)
      have hok : μ1.1 (y + 2) k = ow k := by rw [ho1.2.1 (y + 2) (by omega)]; exact how k hkW
      obtain ⟨m, hm, em⟩ := hown k
      have i31 : (31 : Int32) + nI k = nI (31 + k) := nI_add 31 k
      have c31 : (nI (31 + k)).toNatClampNeg = 31 + k := nI_clamp (by omega)
      have i19 : (19 : Int32) + nI k = nI (19 + k) := nI_add 19 k
      have c19 : (nI (19 + k)).toNatClampNeg = 19 + k := nI_clamp (by omega)
      have i7 : (7 : Int32) + nI k = nI (7 + k) := nI_add 7 k
      have c7 : (nI (7 + k)).toNatClampNeg = 7 + k := nI_clamp (by omega)
      have nr : (12 : Nat) ≠ r := by omega
      have nr' : r ≠ 12 := by omega
      have ht4 := (hv.2.1 k hk).2.2.2.2.2
      -- what he pays
      obtain ⟨p, hp⟩ : ∃ p, p = sPay ow k (nI cn) := ⟨_, rfl⟩
      obtain ⟨cn', hcn', ecn'⟩ : ∃ cn', cn' ≤ 99 ∧ nI cn' = nI cn - p := by
        rw [hp]; unfold sPay; rw [em]
        by_cases z : nI cn ≤ nI m
        · rw [if_pos z]; exact ⟨0, by decide, by rw [Int32.sub_self]; rfl⟩
        · rw [if_neg z]
          have : ¬ cn ≤ m := fun q => z (nI_le q (by omega))
          exact ⟨cn - m, by omega, (pk_sub (by omega)).symm⟩
      -- from the wear on
      have t138 : ∀ (μ3 : jM), cOff (fun c => c = r ∨ c = 12) (fun _ => False) μ μ3 → (∀ f, f ≠ 2 → μ3.1 12 f = μ.1 12 f) → (∀ i, i < 32 → bt (μ3.1 12 2) i = (bt (μ.1 12 2) i || decide (i ∈ W1 ++ [k] ∧ T 4 i = 1))) → (∀ j, μ3.1 r j = μ1.1 r j + (if j = 31 + k then p else 0) + (if T 4 k = 1 ∧ j = 19 + k then 1 else 0) + (if T 4 k = 1 ∧ j = 64 + a then 1 else 0)) → J l mX10_walk (jZ0 2 G (pV φ)) G 0 0 138 [.ref 12, .int (nI a), .ref y, .ref r, .int (nI cn'), .int worn, .int (nI W1.length), .int (nI k), .null, .null] [] μ3 := by
        intro μ3 ho3 hf3 hs3 hr3x
        have hP3 := ho3.gPP hP
        have ho4 : ∀ x, cOff (fun c => c = r ∨ c = 12) (fun _ => False) μ (wI μ3 r (7 + k) x) := fun x => ho3.trans (cOff_wI (Or.inl rfl))
        have hrow4 : ∀ j, j ≠ 3 → j ≠ 43 + a → j ≠ 50 + a → (wI μ3 r (7 + k) (μ3.1 r (7 + k) + 1)).1 r j = cRow (sG1 T a k p Si) od lots th j := by
          intro j j3 j43 j50
          rw [cRow_G1 ha7 (by omega), if_neg j3, if_neg j43, ← hrow j j3 j43 j50, wI_eq]
          show addR (μ3.1 r) (7 + k) 1 j = _
          rw [addR_ap, hr3x j]
          simp only [Int32.add_zero]
          ac_rfl
        have hx3 : ∀ j, (j = 3 ∨ j = 43 + a ∨ j = 50 + a) → (wI μ3 r (7 + k) (μ3.1 r (7 + k) + 1)).1 r j = μ1.1 r j := by
          intro j hj
          rw [wI_off' (by omega), hr3x j, if_neg (by omega), if_neg (by omega), if_neg (by omega)]
          simp only [Int32.add_zero]
        have hwk : (wI μ3 r (7 + k) (μ3.1 r (7 + k) + 1)).1 r (7 + k) = sG1 T a k p Si k := by
          rw [hrow4 (7 + k) (by omega) (by omega) (by omega), cRow_w (by omega)]
        have hcc : ∀ i, cnt (W1 ++ [k]) i = cnt W1 i + if i = k then 1 else 0 := fun i => by
          unfold cnt
          rw [List.count_append, List.count_cons, List.count_nil]
          by_cases e : i = k
          · simp [e]
          · have e' : ¬ k = i := fun z => e z.symm
            simp [e, e']
        have hw' : ∀ i, i < 12 → sG1 T a k p Si i = nI (wS i + cnt (W1 ++ [k]) i) := fun i hi => by
          rw [sG1_w ha7 hi, hwr1 i hi, nI_01, hcc, Nat.add_assoc]
        have hl2 : (W1 ++ [k]).length = W1.length + 1 := by simp
        have next : ∀ worn' : Int32, (∀ i, i < 32 → (bt worn' i = true ↔ (i ∈ W1 ++ [k] ∧ sBears T Lw S i ≤ sG1 T a k p Si i))) → J l mX10_walk (jZ0 2 G (pV φ)) G 0 0 175 [.ref 12, .int (nI a), .ref y, .ref r, .int (nI cn'), .int worn', .int (nI W1.length), .null, .null, .null] [] (wI μ3 r (7 + k) (μ3.1 r (7 + k) + 1)) := by
          intro worn' hworn'
          refine b_X10_walk_175 hG ((ho4 _).gPP hP) hgr ((ho4 _).tO hy) ?_
          rw [nI_inc, ← hl2]
          refine ih (W1 ++ [k]) cn' (sG1 T a k p Si) worn' _ (by rw [hWW]; simp) ?_ hcn' (ho4 _) (fun f hf => ?_) (fun i hi => ?_) hrow4 (by rw [hx3 3 (by omega)]; exact r3) (by rw [hx3 (43 + a) (by omega)]; exact r43) (by rw [hx3 (50 + a) (by omega)]; exact r50) ?_ ?_ ?_ hw' hworn'
          · rw [hEE, ecn', hp]; rfl
          · rw [wI_ne nr]; exact hf3 f hf
          · rw [wI_ne nr]; exact hs3 i hi
          · rw [sG1_ap, if_neg (show ¬ 66 = 24 + k by omega), if_neg (show ¬ 66 = 36 + a by omega), if_pos rfl, if_neg (show ¬ 66 = k by omega), if_neg (show ¬ (T 4 k = 1 ∧ 66 = 12 + k) by omega), if_neg (show ¬ (T 4 k = 1 ∧ 66 = 57 + a) by omega), s66, ecn']
            simp only [Int32.add_zero]
            exact alg1 _ _ _ _
          · rw [sG1_ap, if_neg (show ¬ 36 + a = 24 + k by omega), if_pos rfl, if_neg (show ¬ 36 + a = 66 by omega), if_neg (show ¬ 36 + a = k by omega), if_neg (show ¬ (T 4 k = 1 ∧ 36 + a = 12 + k) by omega), if_neg (show ¬ (T 4 k = 1 ∧ 36 + a = 57 + a) by omega), s36, ecn']
            simp only [Int32.add_zero]
            exact alg1 _ _ _ _
          · rw [sG1_ap, if_neg (show ¬ 43 + a = 24 + k by omega), if_neg (show ¬ 43 + a = 36 + a by omega), if_neg (show ¬ 43 + a = 66 by omega), if_neg (show ¬ 43 + a = k by omega), if_neg (show ¬ (T 4 k = 1 ∧ 43 + a = 12 + k) by omega), if_neg (show ¬ (T 4 k = 1 ∧ 43 + a = 57 + a) by omega), s43]
            simp only [Int32.add_zero]
        obtain ⟨mb, hmb, emb⟩ := hbn k
        have hck8 : cnt W1 k ≤ 8 := Nat.le_trans (cnt_le W1 k) (by omega)
        have hwSk := (hwS k (by omega)).2
        have hsk := hw' k (by omega)
        rw [hcc, if_pos rfl] at hsk
        have hb4 := hb14 _ (ho4 (μ3.1 r (7 + k) + 1)) k hk
        refine b_X10_walk_138 hG hP3 hgr (ho3.tO hy) (by rw [i7]; exact vp_in_nI (by omega) (by decide)) (vp_in_nI (by omega) (by decide)) (fun h => ?_) (fun h => ?_)
        · rw [i7, c7, ck, hwk, hb4, hsk, emb, nI_ltI (by omega) (by omega)] at h
          rw [i7, c7]
          refine next worn (fun i hi => ?_)
          rw [hworn i hi]
          by_cases e : i = k
          · subst e
            rw [hwr1 i (by omega), hsk, emb, nI_leI (by omega) (by omega), nI_leI (by omega) (by omega)]
            constructor
            · rintro ⟨z1, z2⟩; omega
            · rintro ⟨z1, z2⟩; omega
          · by_cases hi12 : i < 12
            · rw [sG1_w ha7 hi12, if_neg e, Int32.add_zero]; simp [e]
            · constructor
              · rintro ⟨z1, z2⟩; have := hWin i (by rw [hWW]; simp [z1]); omega
              · rintro ⟨z1, z2⟩
                have : i ∈ W1 := by simpa [e] using z1
                have := hWin i (by rw [hWW]; simp [this]); omega
        · rw [i7, c7, ck, hwk, hb4, hsk, emb, nI_ltI (by omega) (by omega)] at h
          rw [i7, c7]
          refine next _ (fun i hi => ?_)
          rw [b_or, b_one (by omega) hi, Bool.or_eq_true, hworn i hi, decide_eq_true_iff]
          by_cases e : i = k
          · subst e
            rw [hsk, emb, nI_leI (by omega) (by omega)]
            simp
            omega
          · by_cases hi12 : i < 12
            · rw [sG1_w ha7 hi12, if_neg e, Int32.add_zero]; simp [e]
            · constructor
              · rintro (⟨z1, z2⟩ | z)
                · have := hWin i (by rw [hWW]; simp [z1]); omega
                · exact absurd z e
              · rintro ⟨z1, z2⟩
                have : i ∈ W1 := by simpa [e] using z1
                have := hWin i (by rw [hWW]; simp [this]); omega
      have t89 : ∀ (μ2 : jM), cOff (fun c => c = r ∨ c = 12) (fun _ => False) μ μ2 → μ2.1 12 = μ1.1 12 → (∀ j, μ2.1 r j = μ1.1 r j + (if j = 31 + k then p else 0)) → J l mX10_walk (jZ0 2 G (pV φ)) G 0 0 89 [.ref 12, .int (nI a), .ref y, .ref r, .int (nI cn'), .int worn, .int (nI W1.length), .int (nI k), .null, .null] [] μ2 := by
        intro μ2 ho2 h12' hr2
        have hfield : ((μ2.1 t 6 >>> (nI k &&& 31)) &&& 1) = nI (T 4 k) := by rw [ho2.2.1 t (by omega)]; exact (hx.2.2.1 k hk).2.2.2
        refine b_X10_walk_89 hG (ho2.gPP hP) hgr (ho2.tO ht) (ho2.tO hy) (by rw [ho2.1]; exact q0) (fun h => ?_) (fun _ => by rw [i19]; exact vp_in_nI (by omega) (by decide)) (fun _ => by rw [i64]; exact vp_in_nI (by omega) (by decide)) (fun h => ?_)
        · rw [hfield] at h
          have h4 : ¬ T 4 k = 1 := fun e => by rw [e] at h; exact absurd h (by decide)
          refine t138 μ2 ho2 (fun f hf => by rw [h12']; exact hf1 f hf) (fun i hi => ?_) (fun j => ?_)
          · rw [h12', hs1 i hi]
            congr 1
            by_cases e : i = k
            · subst e; simp [h4]
            · simp [e]
          · rw [hr2 j, if_neg (show ¬ (T 4 k = 1 ∧ j = 19 + k) from fun z => h4 z.1), if_neg (show ¬ (T 4 k = 1 ∧ j = 64 + a) from fun z => h4 z.1)]
            simp only [Int32.add_zero]
        · rw [hfield] at h
          have h4 : T 4 k = 1 := by
            rcases Nat.le_one_iff_eq_zero_or_eq_one.mp ht4 with e | e
            · exact absurd (by rw [e]; rfl) h
            · exact e
          rw [i19, c19, i64, c64]
          refine t138 _ (((ho2.trans (cOff_wI (Or.inl rfl))).trans (cOff_wI (Or.inl rfl))).trans (cOff_wI (Or.inr rfl))) (fun f hf => ?_) (fun i hi => ?_) (fun j => ?_)
          · rw [wI_off' hf, wI_ne nr, wI_ne nr, h12']; exact hf1 f hf
          · rw [wI_at, wI_ne nr, wI_ne nr, h12', b_or, b_one (by omega) hi, hs1 i hi, Bool.or_assoc]
            congr 1
            by_cases e : i = k
            · subst e; simp [h4]
            · simp [e]
          · rw [wI_ne nr', wI_eq]
            show addR _ (64 + a) 1 j = _
            rw [addR_ap, wI_eq]
            show addR (μ2.1 r) (19 + k) 1 j + _ = _
            rw [addR_ap, hr2 j]
            simp only [h4, true_and]
      refine b_X10_walk_29 (ψ0 := fun _ => True) hG hP1 hgr (ho1.tO ht) (ho1.tO hy) (by rw [ho1.1]; exact q0) (fun h => absurd h hgt) (fun h => absurd h hgt) (fun h => absurd h hgt) (fun h => absurd h hgt) (fun h => absurd h hgt) (fun _ => vp_in_nI (by omega) (by decide)) (fun _ => by rw [hk3]; exact vp_in_nI (by omega) (by decide)) (fun _ h => ?_) (fun _ _ => by rw [hk3, i31]; exact vp_in_nI (by omega) (by decide)) (fun _ h => ?_)
      · rw [hk3, ck, hok, em] at h
        have hm0 : m = 0 := by
          have := (nI_leI (b := 0) (by omega) (by decide)).mp h; omega
        have hp0 : p = 0 := by
          rw [hp]; unfold sPay; rw [em, hm0]
          by_cases z : nI cn ≤ nI 0
          · rw [if_pos z]
            have : cn ≤ 0 := (nI_leI (by omega) (by decide)).mp z
            rw [show cn = 0 by omega]; rfl
          · rw [if_neg z]; rfl
        have hcc : nI cn = nI cn' := by rw [ecn', hp0, Int32.sub_zero]
        rw [hk3, hcc]
        exact t89 μ1 ho1 rfl (fun j => by rw [hp0]; simp)
      · rw [hk3, ck, hok] at h
        rw [hk3, ck, i31, c31, hok]
        have hpe : (if nI cn < ow k then nI cn else ow k) = p := by
          rw [hp]; unfold sPay
          by_cases z : nI cn < ow k
          · rw [if_pos z, if_pos (by rw [i32_lt] at z; rw [i32_le]; omega)]
          · rw [if_neg z]
            by_cases z2 : nI cn ≤ ow k
            · rw [if_pos z2]; apply i32_ext; rw [i32_lt] at z; rw [i32_le] at z2; omega
            · rw [if_neg z2]
        rw [hpe, ← ecn']
        refine t89 _ (ho1.trans (cOff_wI (Or.inl rfl))) (wI_ne nr) (fun j => ?_)
        rw [wI_eq]
        show addR (μ1.1 r) (31 + k) p j = _
        rw [addR_ap]
  refine b_X10_walk_0 hG hP hgr ht hy q0 q5 ia hwr ?_
  have hga : μ.1 (t + 7) (nI a).toNatClampNeg = nI (T 8 a) := by rw [ca]; exact g8 μ cOff.refl
  rw [hga]
  refine loop W [] (T 8 a) (addR S (43 + a) 1) 0 μ rfl hE t8 cOff.refl (fun _ _ => rfl) (fun i hi => by simp) (fun j h3 h43 h50 => ?_) (by rw [hr]; rfl) (by rw [hr, show 43 + a = 7 + (36 + a) by omega, cRow_w (by omega)]) (by rw [hr, show 50 + a = 7 + (43 + a) by omega, cRow_w (by omega)]) ?_ ?_ ?_ (fun i hi => ?_) (fun i hi => by rw [b_0]; simp)
  · rw [hr, cRow_add (by omega), addR_ap, cix_lo (by omega), if_neg (by omega), Int32.add_zero]
  · rw [addR_ne (by omega), Int32.sub_self, Int32.add_zero]
  · rw [addR_ne (by omega), Int32.sub_self, Int32.add_zero]
  · rw [addR_ap, if_pos rfl]
  · rw [addR_ne (by omega), (hwS i hi).1]; simp [cnt]
end WalkC
