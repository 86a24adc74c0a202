/-! THE REFERENCE: SLOTS, what is TOLD, count -/
theorem nar01 {b : Nat} (h : b ≤ 1) : vp_nar .boolean (nI b) = nI b := by
  rcases Nat.le_one_iff_eq_zero_or_eq_one.mp h with rfl | rfl <;> rfl
section ModY
variable {l : Launch} {G : jG}
theorem c_X12_hold (hG : gMM G) {μ : jM} (hP : gNN μ) {a : aS} (ha : mI a μ) (x : Int32) : jC0 l mX12_hold 1 G [.ref 112, .int x] μ (pI fun z μ' => z = (dHold a x).1 ∧ mI (dHold a x).2 μ' ∧ gNN μ' ∧ loM μ μ') := by
  refine jC0.of' (ls := [.ref 112, .int x, .null]) rfl rfl rfl (fun _ _ => Nat.le_of_ble_eq_true rfl) ?_
  obtain ⟨⟨v, h1⟩, h2, h3, h4, h5, h6⟩ := id ha
  refine b_X12_hold_0 hG hP (c_X12_inN hG hP x (n := 2) rfl (by decide)) ?_
  rintro z μ1 ⟨rfl, ⟨rfl, hx⟩ | ⟨rfl, hx⟩⟩
  · obtain ⟨s, hs, rfl⟩ := hx
    have cs : (nI s).toNatClampNeg = s := nI_clamp (by omega)
    have e0 : dHold a (nI s) = (1, aHo a (upB (gHs a) s) (upR (gSl a) s (gS a))) := by unfold dHold; rw [if_pos ⟨s, hs, rfl⟩, cs]
    rw [e0]
    refine b_X12_hold_6 hG hP (fun _ => vp_in_nI hs (by decide)) (fun _ => ?_) (fun h => absurd h (by decide))
    rw [cs, show vp_nar .boolean 1 = 1 from rfl]
    have ow : mOff [165, 166] [] μ1 (wI μ1 165 s 1) := mOff_wC (by decide) (by decide)
    have loop : ∀ i, i ≤ 68 → ∀ μ2, mOff [165, 166] [] μ1 μ2 → μ2.1 165 = upd (μ1.1 165) s 1 → (∀ k, k < i → μ2.1 166 (68 * s + k) = gS a k) → (∀ k, k < 68 * s ∨ 68 * s + 68 ≤ k → μ2.1 166 k = μ1.1 166 k) → J l mX12_hold (jZ0 1 G (pI fun z μ' => z = 1 ∧ mI (aHo a (upB (gHs a) s) (upR (gSl a) s (gS a))) μ' ∧ gNN μ' ∧ loM μ1 μ')) G 0 0 20 [.ref 112, .int (nI s), .int (nI i)] [] μ2 := by
      refine up_loop 68 ?_ (fun i hi ih => ?_)
      · intro μ2 ho h165 hr hz
        have hP2 := ho.gNN hP
        refine b_X12_hold_20 hG hP2 (fun _ => ⟨rfl, ⟨⟨v, txM_off ho ⟨by decide, by decide⟩ h1.1, by rw [ho.c 151 (by decide) (by decide)]; exact h1.2.1, by rw [ho.c 152 (by decide) (by decide)]; exact h1.2.2.1, h1.2.2.2⟩, tapeM_off ho (by decide) (by decide) h2, by rw [ho.f 17 (by decide)]; exact h3, histM_off ho (by decide) (by decide) h4, ?_, dreamM_off ho (by decide) (by decide) (by decide) (by decide) h6⟩, hP2, ho.lo (by decide)⟩) (fun h => absurd (by decide) h) (fun h => absurd (by decide) h) (fun h => absurd (by decide) h)
        intro t ht
        obtain ⟨k1, k2⟩ := h5 t ht
        rw [h165]
        by_cases e : t = s
        · subst e
          refine ⟨?_, fun _ k hk => ?_⟩
          · rw [upd_at]; show 1 = if upB (gHs a) t t = true then 1 else 0
            simp [upB]
          · show _ = upR (gSl a) t (gS a) t k
            rw [hr k hk]; simp [upR]
        · have eb : upB (gHs a) s t = gHs a t := by simp [upB, e]
          have er : upR (gSl a) s (gS a) t = gSl a t := by simp [upR, e]
          show upd (μ1.1 165) s 1 t = (if upB (gHs a) s t = true then 1 else 0) ∧ (upB (gHs a) s t = true → ∀ k, k < 68 → μ2.1 166 (68 * t + k) = upR (gSl a) s (gS a) t k)
          rw [eb, er, upd_ne e]
          refine ⟨k1, fun hh k hk => ?_⟩
          rw [hz _ (by omega)]; exact k2 hh k hk
      · intro μ2 ho h165 hr hz
        have hP2 := ho.gNN hP
        have ei : (68 : Int32) * nI s + nI i = nI (68 * s + i) := by rw [show (68 : Int32) = nI 68 from rfl, pk_mul, nI_add]
        refine b_X12_hold_20 hG hP2 (fun h => absurd h (nI_ge (b := 68) hi (by decide))) (fun _ => vp_in_nI hi (by decide)) (fun _ => by rw [ei]; exact vp_in_nI (by omega) (by decide)) (fun _ => ?_)
        rw [ei, nI_clamp (by omega), nI_clamp (by omega), nI_inc, ho.c 151 (by decide) (by decide), h1.2.1]
        refine ih _ (ho.trans (mOff_wC (by decide) (by decide))) (by rw [wI_ne (by decide)]; exact h165) (fun k hk => ?_) (fun k hk => by rw [wI_off' (by omega)]; exact hz k hk)
        by_cases e : k = i
        · rw [e, wI_at]
        · rw [wI_off' (by omega)]; exact hr k (by omega)
    exact loop 0 (by omega) _ ow (by rw [wI_eq]) (fun k hk => by omega) (fun k hk => by rw [wI_ne (by decide)])
  · have e0 : dHold a x = (0, a) := if_neg hx
    rw [e0]
    exact b_X12_hold_6 hG hP (fun h => absurd rfl h) (fun h => absurd rfl h) (fun _ => ⟨rfl, ha, hP, loM.refl⟩)
theorem c_X12_restore (hG : gMM G) {μ : jM} (hP : gNN μ) {a : aS} {B : Nat} (ha : mI a μ) (hok : aOK a B) (x : Int32) : jC0 l mX12_restore 1 G [.ref 112, .int x] μ (pI fun z μ' => z = (dRest a x).1 ∧ mI (dRest a x).2 μ' ∧ gNN μ' ∧ loM μ μ') := by
  refine jC0.of' (ls := [.ref 112, .int x, .null]) rfl rfl rfl (fun _ _ => Nat.le_of_ble_eq_true rfl) ?_
  obtain ⟨⟨v, h1⟩, h2, h3, h4, h5, h6⟩ := id ha
  refine b_X12_restore_0 hG hP (c_X12_inN hG hP x (n := 2) rfl (by decide)) ?_
  rintro z μ1 ⟨rfl, ⟨rfl, hx⟩ | ⟨rfl, hx⟩⟩
  · obtain ⟨s, hs, rfl⟩ := hx
    have cs : (nI s).toNatClampNeg = s := nI_clamp (by omega)
    obtain ⟨k1, k2⟩ := h5 s hs
    refine b_X12_restore_6 hG hP (fun h => absurd h (by decide)) (fun _ => vp_in_nI hs (by decide)) (fun _ hh => ?_) (fun _ hh => ?_)
    · rw [cs, k1] at hh
      have hb : gHs a s = true := by
        cases e : gHs a s
        · rw [e] at hh; exact absurd (if_neg (by decide)) hh
        · rfl
      have e0 : dRest a (nI s) = (1, aSH a (gSl a s) []) := by unfold dRest; rw [if_pos ⟨⟨s, hs, rfl⟩, by rw [cs]; exact hb⟩, cs]
      rw [e0]
      have hok' := hok.2.2.1 s hs hb
      have loop : ∀ i, i ≤ 68 → ∀ μ2, mOff [151] [] μ1 μ2 → (∀ k, k < i → μ2.1 151 k = gSl a s k) → (∀ k, 68 ≤ k → μ2.1 151 k = 0) → J l mX12_restore (jZ0 1 G (pI fun z μ' => z = 1 ∧ mI (aSH a (gSl a s) []) μ' ∧ gNN μ' ∧ loM μ1 μ')) G 0 0 22 [.ref 112, .int (nI s), .int (nI i)] [] μ2 := by
        refine up_loop 68 ?_ (fun i hi ih => ?_)
        · intro μ2 ho hr hz
          have hP2 := ho.gNN hP
          have ow : mOff [151] [66] μ1 (wI μ2 112 66 0) := (ho.mono (by decide) (by decide)).trans (mOff_wF (by decide))
          refine b_X12_restore_22 hG hP2 (fun _ => ⟨rfl, ⟨⟨v, txM_off ow ⟨by decide, by decide⟩ h1.1, ?_, by rw [ow.c 152 (by decide) (by decide)]; exact h1.2.2.1, hok'.1, hok'.2.2⟩, tapeM_off ow (by decide) (by decide) h2, by rw [ow.f 17 (by decide)]; exact h3, ⟨by rw [wI_at]; rfl, Nat.zero_le _, fun j R hR => by cases hR⟩, slotM_off ow (by decide) (by decide) h5, dreamM_off ow (by decide) (by decide) (by decide) (by decide) h6⟩, hP2, ow.lo (by decide)⟩) (fun h => absurd (by decide) h) (fun h => absurd (by decide) h) (fun h => absurd (by decide) h)
          rw [wI_ne (by decide)]
          funext k
          by_cases hk : k < 68
          · exact hr k hk
          · rw [hz k (by omega)]; exact (hok'.1 k (by omega)).symm
        · intro μ2 ho hr hz
          have hP2 := ho.gNN hP
          have ei : (68 : Int32) * nI s + nI i = nI (68 * s + i) := by rw [show (68 : Int32) = nI 68 from rfl, pk_mul, nI_add]
          refine b_X12_restore_22 hG hP2 (fun h => absurd h (nI_ge (b := 68) hi (by decide))) (fun _ => by rw [ei]; exact vp_in_nI (by omega) (by decide)) (fun _ => vp_in_nI hi (by decide)) (fun _ => ?_)
          rw [ei, nI_clamp (by omega), nI_clamp (by omega), nI_inc, ho.c 166 (by decide) (by decide), k2 hb i hi]
          refine ih _ (ho.trans (mOff_wC (by decide) (by decide))) (fun k hk => ?_) (fun k hk => by rw [wI_off' (by omega)]; exact hz k hk)
          by_cases e : k = i
          · rw [e, wI_at]
          · rw [wI_off' e]; exact hr k (by omega)
      exact loop 0 (by omega) μ1 mOff.refl (fun k hk => by omega) (fun k hk => by rw [h1.2.1]; exact h1.2.2.2.1 k hk)
    · rw [cs, k1] at hh
      have hb : ¬ gHs a s = true := fun e => by rw [if_pos e] at hh; exact absurd hh (by decide)
      have e0 : dRest a (nI s) = (0, a) := if_neg (fun z => hb (by have := z.2; rw [cs] at this; exact this))
      rw [e0]; exact ⟨rfl, ha, hP, loM.refl⟩
  · have e0 : dRest a x = (0, a) := if_neg (fun z => hx z.1)
    rw [e0]
    exact b_X12_restore_6 hG hP (fun _ => ⟨rfl, ha, hP, loM.refl⟩) (fun h => absurd rfl h) (fun h => absurd rfl h) (fun h => absurd rfl h)
theorem c_X12_forget (hG : gMM G) {μ : jM} (hP : gNN μ) {a : aS} (ha : mI a μ) : jC0 l mX12_forget 0 G [.ref 112] μ (pI fun z μ' => z = nI (gD a).length ∧ mI (aDr a []) μ' ∧ gNN μ' ∧ loM μ μ') := by
  refine jC0.of' (ls := [.ref 112, .null]) rfl rfl rfl (fun _ _ => Nat.le_of_ble_eq_true rfl) ?_
  obtain ⟨⟨v, h1⟩, h2, h3, h4, h5, h6⟩ := id ha
  have oo : mOff [] [71] μ (wI μ 112 71 0) := mOff_wF (by decide)
  exact b_X12_forget_0 hG hP ⟨h6.1, ⟨⟨v, txM_off oo ⟨by decide, by decide⟩ h1.1, by rw [oo.c 151 (by decide) (by decide)]; exact h1.2.1, by rw [oo.c 152 (by decide) (by decide)]; exact h1.2.2.1, h1.2.2.2⟩, tapeM_off oo (by decide) (by decide) h2, by rw [oo.f 17 (by decide)]; exact h3, histM_off oo (by decide) (by decide) h4, slotM_off oo (by decide) (by decide) h5, by rw [wI_at]; rfl, Nat.zero_le _, fun j R hR => by cases hR⟩, hP, oo.lo (by decide)⟩
theorem c_X12_tell (hG : gMM G) {μ : jM} (hP : gNN μ) {a : aS} (ha : mI a μ) (x y : Int32) {b : Nat} (hb : b ≤ 1) : jC0 l mX12_tell 2 G [.ref 112, .int x, .int y, .int (nI b)] μ (pI fun z μ' => z = (dTell a x y b).1 ∧ mI (dTell a x y b).2 μ' ∧ gNN μ' ∧ loM μ μ') := by
  refine jC0.of' (ls := [.ref 112, .int x, .int y, .int (nI b)]) rfl rfl rfl (fun _ _ => Nat.le_of_ble_eq_true rfl) ?_
  obtain ⟨⟨v, h1⟩, h2, h3, h4, h5, h6⟩ := id ha
  have h12 := h1.1.2.2.2.2.2.1.2.1
  have hl := h6.2.1
  have h20 : (μ.1 112 71 = (20 : Int32)) ↔ (gD a).length = 20 := by rw [h6.1]; exact nI_eq (b := 20) (by omega) (by decide)
  have no : ¬ ((gD a).length ≠ 20 ∧ isN x (gT a 0 1) ∧ gT a 4 x.toNatClampNeg = 1 ∧ isN y 31) → dTell a x y b = (-1, a) := fun h => if_neg h
  have n0 : ¬ ((gD a).length ≠ 20 ∧ isN x (gT a 0 1) ∧ gT a 4 x.toNatClampNeg = 1 ∧ isN y 31) → (-1 : Int32) = (dTell a x y b).1 ∧ mI (dTell a x y b).2 μ ∧ gNN μ ∧ loM μ μ := fun h => by
    rw [no h]; exact ⟨rfl, ha, hP, loM.refl⟩
  refine b_X12_tell_0 hG hP (fun h => n0 (fun z => z.1 (h20.mp h))) (fun _ => c_X12_isRoad hG hP h1.1 x) (fun hne => ?_)
  have hn20 : (gD a).length ≠ 20 := fun z => hne (h20.mpr z)
  rintro z μ1 ⟨rfl, ⟨rfl, hx⟩ | ⟨rfl, hx⟩⟩
  · obtain ⟨k, hk, rfl⟩ := id hx
    have ck : (nI k).toNatClampNeg = k := nI_clamp (by omega)
    refine b_X12_tell_14 hG hP (fun h => absurd h (by decide)) (fun _ => c_X12_overField hG hP h1.1 hk) (fun _ => ?_)
    rintro z μ2 ⟨rfl, rfl⟩
    have h4k := (h1.1.2.2.2.2.2.2.1 k hk).2.2.2.2.2
    refine b_X12_tell_22 hG hP (fun h => n0 (fun z => ?_)) (fun _ => c_X12_inN hG hP y (n := 30) rfl (by decide)) (fun hf => ?_)
    · have := z.2.2.1
      rw [ck] at this
      rw [this] at h; exact absurd h (by decide)
    · have hf1 : gT a 4 k = 1 := by
        rcases Nat.le_one_iff_eq_zero_or_eq_one.mp h4k with e | e
        · rw [e] at hf; exact absurd rfl hf
        · exact e
      rintro z μ3 ⟨rfl, ⟨rfl, hy⟩ | ⟨rfl, hy⟩⟩
      · obtain ⟨n, hn, rfl⟩ := id hy
        have cn : (nI n).toNatClampNeg = n := nI_clamp (by omega)
        have e0 : dTell a (nI k) (nI n) b = (nI (gD a).length, aDr a (gD a ++ [(k, n, b)])) := by
          unfold dTell; rw [if_pos ⟨hn20, hx, by rw [ck]; exact hf1, hy⟩, ck, cn]
        rw [e0]
        have cD : (μ3.1 112 71).toNatClampNeg = (gD a).length := by rw [h6.1]; exact nI_clamp (by omega)
        refine b_X12_tell_32 hG hP (fun _ => by rw [h6.1]; exact vp_in_nI (by omega) (by decide)) (fun _ => ?_) (fun h => absurd h (by decide))
        rw [cD, nar01 hb]
        obtain ⟨μ4, h4e⟩ : ∃ μ4, μ4 = wI (wI (wI (wI μ3 159 (gD a).length (nI k)) 160 (gD a).length (nI n)) 161 (gD a).length (nI b)) 112 71 ((μ3.1 112 71) + 1) := ⟨_, rfl⟩
        rw [← h4e]
        have oo : mOff [159, 160, 161] [71] μ3 μ4 := by
          rw [h4e]
          exact (((mOff_wC (C := [159, 160, 161]) (F := [71]) (by decide) (by decide)).trans (mOff_wC (by decide) (by decide))).trans (mOff_wC (by decide) (by decide))).trans (mOff_wF (by decide))
        refine ⟨?_, ⟨⟨v, txM_off oo ⟨by decide, by decide⟩ h1.1, by rw [oo.c 151 (by decide) (by decide)]; exact h1.2.1, by rw [oo.c 152 (by decide) (by decide)]; exact h1.2.2.1, h1.2.2.2⟩, tapeM_off oo (by decide) (by decide) h2, by rw [oo.f 17 (by decide)]; exact h3, histM_off oo (by decide) (by decide) h4, slotM_off oo (by decide) (by decide) h5, ?_, ?_, ?_⟩, oo.gNN hP, oo.lo (by decide)⟩
        · rw [h6.1, Int32.sub_eq_add_neg, Int32.add_assoc, Int32.add_right_neg, Int32.add_zero]
        · show _ = nI (gD a ++ [(k, n, b)]).length
          rw [h4e, wI_at, h6.1, nI_inc]; simp
        · show (gD a ++ [(k, n, b)]).length ≤ 20
          simp; omega
        · intro i d hd
          have hd' : (gD a ++ [(k, n, b)])[i]? = some d := hd
          have c159 : μ4.1 159 = upd (μ3.1 159) (gD a).length (nI k) := by rw [h4e, wI_ne (by decide), wI_ne (by decide), wI_ne (by decide), wI_eq]
          have c160 : μ4.1 160 = upd (μ3.1 160) (gD a).length (nI n) := by rw [h4e, wI_ne (by decide), wI_ne (by decide), wI_eq, wI_ne (by decide)]
          have c161 : μ4.1 161 = upd (μ3.1 161) (gD a).length (nI b) := by rw [h4e, wI_ne (by decide), wI_eq, wI_ne (by decide), wI_ne (by decide)]
          rw [c159, c160, c161]
          by_cases e : i = (gD a).length
          · rw [e] at hd' ⊢
            simp at hd'
            rw [← hd', upd_at, upd_at, upd_at]; exact ⟨rfl, rfl, rfl⟩
          · have hi : i < (gD a).length := by
              have := (List.getElem?_eq_some_iff.mp hd').1
              simp at this; omega
            rw [List.getElem?_append_left hi] at hd'
            rw [upd_ne e, upd_ne e, upd_ne e]
            exact h6.2.2 i d hd'
      · exact b_X12_tell_32 hG hP (fun h => absurd rfl h) (fun h => absurd rfl h) (fun _ => n0 (fun z => hy z.2.2.2))
  · exact b_X12_tell_14 (ψ1 := fun _ _ => True) hG hP (fun _ => n0 (fun z => hx z.2.1)) (fun h => absurd rfl h) (fun h => absurd rfl h)
theorem c_X12_count (hG : gMM G) {μ : jM} (hP : gNN μ) {a : aS} (ha : mI a μ) (y : Int32) : jC0 l mX12_count 4 G [.ref 112, .int y] μ (pI fun z μ' => z = rCount a y ∧ mI a μ' ∧ gNN μ' ∧ loM μ μ') := by
  refine jC0.of' (ls := [.ref 112, .int y]) rfl rfl rfl (fun _ _ => Nat.le_of_ble_eq_true rfl) ?_
  obtain ⟨v, hm⟩ := ha.1
  have h12 := hm.1.2.2.2.2.2.1.2.1
  refine b_X12_count_0 hG hP (c_X12_copies hG hP hm) ?_
  rintro μ1 ⟨hq, hm1, ⟨hr, hlo, hth, hod⟩, hP1, -⟩
  obtain ⟨ha1, -, hl1⟩ := mI_q ha hq hP
  have ht := hm1.1
  have n1 : vp_in (μ1.1 112 18) 2 := ix_in ht.1.2 ht.1.1 (by decide)
  have c1 : (μ1.1 112 18).toNatClampNeg = v := ix_cl ht.1.2 (by have := ht.1.1; omega)
  have E := ha1.2
  refine b_X12_count_4 hG hP1 (fun _ => n1) (fun h0 => ⟨?_, ha1, hP1, hl1⟩) (fun _ _ => n1) (fun h0 h1 => ⟨?_, ha1, hP1, hl1⟩) (fun _ _ _ => n1) (fun h0 h1 h2 => ⟨?_, ha1, hP1, hl1⟩) (fun h0 h1 h2 h3 => ⟨?_, ha1, hP1, hl1⟩) (fun h0 h1 h2 h3 h4 => ⟨?_, ha1, hP1, hl1⟩) (fun h0 h1 h2 h3 h4 h5 => ⟨?_, ha1, hP1, hl1⟩) (fun h0 h1 h2 h3 h4 h5 h6 => ⟨?_, ha1, hP1, hl1⟩) (fun _ _ _ _ _ _ _ _ => c_X12_isFoggy hG hP1 ht.1.1 ht.1.2) (fun h0 h1 h2 h3 h4 h5 h6 h7 => ?_) (fun h0 h1 h2 h3 h4 h5 h6 h7 h8 => ⟨?_, ha1, hP1, hl1⟩) (fun h0 h1 h2 h3 h4 h5 h6 h7 h8 h9 => ⟨?_, ha1, hP1, hl1⟩) (fun h0 h1 h2 h3 h4 h5 h6 h7 h8 h9 h10 => ⟨?_, ha1, hP1, hl1⟩) (fun h0 h1 h2 h3 h4 h5 h6 h7 h8 h9 h10 h11 hz => ?_) (fun h0 h1 h2 h3 h4 h5 h6 h7 h8 h9 h10 h11 hz => ?_) (fun _ _ _ _ _ _ _ _ _ _ _ _ _ => c_X12_downNow hG hP1 hm1) (fun h0 h1 h2 h3 h4 h5 h6 h7 h8 h9 h10 h11 h12' => ?_) (fun h0 h1 h2 h3 h4 h5 h6 h7 h8 h9 h10 h11 h12 => ⟨?_, ha1, hP1, hl1⟩)
  · rw [c1, ht.2.1.1, rCount, if_pos h0]
  · rw [c1, ht.2.1.2.1, rCount, if_neg h0, if_pos h1]
  · rw [c1, ht.2.1.2.2.1, rCount, if_neg h0, if_neg h1, if_pos h2]
  · rw [hr, rCount, if_neg h0, if_neg h1, if_neg h2, if_pos h3]
  · rw [hr, rCount, if_neg h0, if_neg h1, if_neg h2, if_neg h3, if_pos h4]
  · rw [hr, rCount, if_neg h0, if_neg h1, if_neg h2, if_neg h3, if_neg h4, if_pos h5]
  · rw [hr, rCount, if_neg h0, if_neg h1, if_neg h2, if_neg h3, if_neg h4, if_neg h5, if_pos h6]
  · rintro z μ2 ⟨rfl, rfl⟩
    have e0 : rCount a y = sFg (gT a) (gS a) (nI (gT a 0 7)) := by rw [rCount, if_neg h0, if_neg h1, if_neg h2, if_neg h3, if_neg h4, if_neg h5, if_neg h6, if_pos h7]
    rw [e0]
    rw [ht.2.1.2.2.2.2.1, hlo, hr]
    obtain ⟨f, hf, ef⟩ := sFg_in (T := gT a) (S := gS a) (lots := nI (gT a 0 7))
    rw [ef, show sFoggy (nI (gT a 0 4)) (nI (gT a 0 7)) (gS a 67) = nI f from ef]
    have : f = 0 ∨ f = 1 := by omega
    rcases this with rfl | rfl
    · exact b_X12_count_138 hG hP1 (fun _ => b_X12_count_146 hG hP1 ⟨rfl, ha1, hP1, hl1⟩) (fun h => absurd rfl h)
    · exact b_X12_count_138 hG hP1 (fun h => absurd h (by decide)) (fun _ => b_X12_count_146 hG hP1 ⟨rfl, ha1, hP1, hl1⟩)
  · rw [E.1.1, rCount, if_neg h0, if_neg h1, if_neg h2, if_neg h3, if_neg h4, if_neg h5, if_neg h6, if_neg h7, if_pos h8]
  · rw [E.2.2.1.1, rCount, if_neg h0, if_neg h1, if_neg h2, if_neg h3, if_neg h4, if_neg h5, if_neg h6, if_neg h7, if_neg h8, if_pos h9]
  · rw [E.2.2.2.2.1, rCount, if_neg h0, if_neg h1, if_neg h2, if_neg h3, if_neg h4, if_neg h5, if_neg h6, if_neg h7, if_neg h8, if_neg h9, if_pos h10]
  all_goals try
    have e0 : rCount a y = hsV (gHs a) := by rw [rCount, if_neg h0, if_neg h1, if_neg h2, if_neg h3, if_neg h4, if_neg h5, if_neg h6, if_neg h7, if_neg h8, if_neg h9, if_neg h10, if_pos h11]
  all_goals try
    have b0 := (E.2.2.2.1 0 (by decide)).1
    have b1 := (E.2.2.2.1 1 (by decide)).1
    have b2 := (E.2.2.2.1 2 (by decide)).1
  · rw [e0]
    rw [b0] at hz
    have g0 : ¬ gHs a 0 = true := fun e => by rw [if_pos e] at hz; exact absurd hz (by decide)
    refine b_X12_count_176 hG hP1 (fun h => ?_) (fun h => ?_)
    · rw [b1] at h
      have g1 : ¬ gHs a 1 = true := fun e => by rw [if_pos e] at h; exact absurd h (by decide)
      refine b_X12_count_190 hG hP1 (fun h => ?_) (fun h => ?_)
      · rw [b2] at h
        have g2 : ¬ gHs a 2 = true := fun e => by rw [if_pos e] at h; exact absurd h (by decide)
        exact b_X12_count_205 hG hP1 ⟨by rw [hsV, if_neg g0, if_neg g1, if_neg g2], ha1, hP1, hl1⟩
      · rw [b2] at h
        have g2 : gHs a 2 = true := Classical.byContradiction (fun e => h (if_neg e))
        exact b_X12_count_205 hG hP1 ⟨by rw [hsV, if_neg g0, if_neg g1, if_pos g2], ha1, hP1, hl1⟩
    · rw [b1] at h
      have g1 : gHs a 1 = true := Classical.byContradiction (fun e => h (if_neg e))
      refine b_X12_count_190 hG hP1 (fun h => ?_) (fun h => ?_)
      · rw [b2] at h
        have g2 : ¬ gHs a 2 = true := fun e => by rw [if_pos e] at h; exact absurd h (by decide)
        exact b_X12_count_205 hG hP1 ⟨by rw [hsV, if_neg g0, if_pos g1, if_neg g2], ha1, hP1, hl1⟩
      · rw [b2] at h
        have g2 : gHs a 2 = true := Classical.byContradiction (fun e => h (if_neg e))
        exact b_X12_count_205 hG hP1 ⟨by rw [hsV, if_neg g0, if_pos g1, if_pos g2], ha1, hP1, hl1⟩
  · rw [e0]
    rw [b0] at hz
    have g0 : gHs a 0 = true := Classical.byContradiction (fun e => hz (if_neg e))
    refine b_X12_count_176 hG hP1 (fun h => ?_) (fun h => ?_)
    · rw [b1] at h
      have g1 : ¬ gHs a 1 = true := fun e => by rw [if_pos e] at h; exact absurd h (by decide)
      refine b_X12_count_190 hG hP1 (fun h => ?_) (fun h => ?_)
      · rw [b2] at h
        have g2 : ¬ gHs a 2 = true := fun e => by rw [if_pos e] at h; exact absurd h (by decide)
        exact b_X12_count_205 hG hP1 ⟨by rw [hsV, if_pos g0, if_neg g1, if_neg g2], ha1, hP1, hl1⟩
      · rw [b2] at h
        have g2 : gHs a 2 = true := Classical.byContradiction (fun e => h (if_neg e))
        exact b_X12_count_205 hG hP1 ⟨by rw [hsV, if_pos g0, if_neg g1, if_pos g2], ha1, hP1, hl1⟩
    · rw [b1] at h
      have g1 : gHs a 1 = true := Classical.byContradiction (fun e => h (if_neg e))
      refine b_X12_count_190 hG hP1 (fun h => ?_) (fun h => ?_)
      · rw [b2] at h
        have g2 : ¬ gHs a 2 = true := fun e => by rw [if_pos e] at h; exact absurd h (by decide)
        exact b_X12_count_205 hG hP1 ⟨by rw [hsV, if_pos g0, if_pos g1, if_neg g2], ha1, hP1, hl1⟩
      · rw [b2] at h
        have g2 : gHs a 2 = true := Classical.byContradiction (fun e => h (if_neg e))
        exact b_X12_count_205 hG hP1 ⟨by rw [hsV, if_pos g0, if_pos g1, if_pos g2], ha1, hP1, hl1⟩
  · rintro z μ2 ⟨hq2, -, hP2, -, hd⟩
    rw [hr] at hd
    obtain ⟨ha2, -, hl2⟩ := mI_q ha1 hq2 hP1
    refine b_X12_count_211 hG hP2 ⟨?_, ha2, hP2, hl1.trans hl2⟩
    rw [dnV_is h12 hd, rCount, if_neg h0, if_neg h1, if_neg h2, if_neg h3, if_neg h4, if_neg h5, if_neg h6, if_neg h7, if_neg h8, if_neg h9, if_neg h10, if_neg h11, if_pos h12']
  · rw [rCount, if_neg h0, if_neg h1, if_neg h2, if_neg h3, if_neg h4, if_neg h5, if_neg h6, if_neg h7, if_neg h8, if_neg h9, if_neg h10, if_neg h11, if_neg h12]
end ModY
