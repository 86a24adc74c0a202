/-! THE REFERENCE: calls that change what stands -/
def gtC (S : sR) (x y : Int32) : Prop := if ((S 64 >>> (x &&& 31)) &&& 1) = 1 then ¬ 1 = y else ¬ 0 = y
noncomputable def dGate (T : sT) (S : sR) (H : List sR) (x y : Int32) : Int32 × sR × List sR := @ite _ (isN x (T 0 1) ∧ gtC S x y) (Classical.propDecidable _) (1, upd S 64 (S 64 ^^^ (1 <<< (x &&& 31))), push H S) (0, S, H)
noncomputable def dRate (S : sR) (H : List sR) (x : Int32) : Int32 × sR × List sR := @ite _ (isN x 10 ∧ ¬ S 65 = x) (Classical.propDecidable _) (1, upd S 65 x, push H S) (0, S, H)
noncomputable def dMend (T : sT) (S : sR) (H : List sR) (x : Int32) : Int32 × sR × List sR := @ite _ (isN x (T 0 1)) (Classical.propDecidable _) (if ¬ S x.toNatClampNeg = 0 ∧ S x.toNatClampNeg ≤ S 66 then (S 66 - S x.toNatClampNeg, upd (upd S 66 (S 66 - S x.toNatClampNeg)) x.toNatClampNeg 0, push H S) else (-2, S, H)) (-1, S, H)
noncomputable def dNights (T : sT) (Lw : Nat → sLaw) (S : sR) (H : List sR) (x : Int32) : Int32 × sR × List sR := @ite _ (isN x 31) (Classical.propDecidable _) (if x = 0 then (S 67, S, H) else (nnS T Lw x.toNatClampNeg S 67, nnS T Lw x.toNatClampNeg S, push H S)) (-1, S, H)
noncomputable def dUndo (S : sR) (H : List sR) : Int32 × sR × List sR := match H.getLast? with
  | none => (0, S, H)
  | some R => (1, R, H.dropLast)
def aHo (a : aS) (hs : Nat → Bool) (sl : Nat → sR) : aS := (a.1, a.2.1, a.2.2.1, (hs, sl), a.2.2.2.2)
def aDr (a : aS) (D : List (Nat × Nat × Nat)) : aS := (a.1, a.2.1, a.2.2.1, a.2.2.2.1, D)
def upB (f : Nat → Bool) (i : Nat) : Nat → Bool := fun j => if j = i then true else f j
def upR (f : Nat → sR) (i : Nat) (R : sR) : Nat → sR := fun j => if j = i then R else f j
noncomputable def dHold (a : aS) (x : Int32) : Int32 × aS := @ite _ (isN x 3) (Classical.propDecidable _) (1, aHo a (upB (gHs a) x.toNatClampNeg) (upR (gSl a) x.toNatClampNeg (gS a))) (0, a)
noncomputable def dRest (a : aS) (x : Int32) : Int32 × aS := @ite _ (isN x 3 ∧ gHs a x.toNatClampNeg = true) (Classical.propDecidable _) (1, aSH a (gSl a x.toNatClampNeg) []) (0, a)
noncomputable def dTell (a : aS) (x y : Int32) (b : Nat) : Int32 × aS := @ite _ ((gD a).length ≠ 20 ∧ isN x (gT a 0 1) ∧ gT a 4 x.toNatClampNeg = 1 ∧ isN y 31) (Classical.propDecidable _) (nI (gD a).length, aDr a (gD a ++ [(x.toNatClampNeg, y.toNatClampNeg, b)])) (-1, a)
noncomputable def dnV (T : sT) (Lw : Nat → sLaw) (S : sR) : Nat → Int32
  | 0 => 0
  | n + 1 => if sDn T Lw S n then dnV T Lw S n ||| (1 <<< (nI n &&& 31)) else dnV T Lw S n
theorem dnV_bt {T : sT} {Lw : Nat → sLaw} {S : sR} : ∀ n, n ≤ 12 → ∀ i, i < 32 → (bt (dnV T Lw S n) i = true ↔ (i < n ∧ sDn T Lw S i)) := by
  intro n
  induction n with
  | zero => intro _ i hi; rw [show dnV T Lw S 0 = 0 from rfl, b_0]; exact ⟨fun z => (by cases z), fun z => absurd z.1 (by omega)⟩
  | succ n ih =>
    intro hn i hi
    have h0 := ih (by omega) i hi
    by_cases hf : sDn T Lw S n
    · rw [show dnV T Lw S (n + 1) = dnV T Lw S n ||| (1 <<< (nI n &&& 31)) from if_pos hf, b_or, b_one (by omega) hi, Bool.or_eq_true, h0, decide_eq_true_iff]
      constructor
      · rintro (⟨h1, h2⟩ | rfl)
        · exact ⟨by omega, h2⟩
        · exact ⟨by omega, hf⟩
      · rintro ⟨h1, h2⟩
        by_cases e : i = n
        · exact Or.inr e
        · exact Or.inl ⟨by omega, h2⟩
    · rw [show dnV T Lw S (n + 1) = dnV T Lw S n from if_neg hf, h0]
      constructor
      · rintro ⟨h1, h2⟩; exact ⟨by omega, h2⟩
      · rintro ⟨h1, h2⟩
        by_cases e : i = n
        · rw [e] at h2; exact absurd h2 hf
        · exact ⟨by omega, h2⟩
theorem dnV_is {T : sT} {Lw : Nat → sLaw} {S : sR} {x : Int32} (h12 : T 0 1 ≤ 12) (h : ∀ i, i < 32 → (bt x i = true ↔ (i < T 0 1 ∧ sDn T Lw S i))) : x = dnV T Lw S (T 0 1) := by
  refine b_ext (fun i hi => ?_)
  have h1 := h i hi
  have h2 := dnV_bt (T := T) (Lw := Lw) (S := S) (T 0 1) h12 i hi
  cases e1 : bt x i <;> cases e2 : bt (dnV T Lw S (T 0 1)) i
  · rfl
  · rw [e1] at h1; exact h1.mpr (h2.mp e2)
  · rw [e2] at h2; exact (h2.mpr (h1.mp e1)).symm
  · rfl
def hsV (hs : Nat → Bool) : Int32 := ((if hs 0 = true then 1 else 0) + (if hs 1 = true then 1 else 0)) + (if hs 2 = true then 1 else 0)
noncomputable def rCount (a : aS) (y : Int32) : Int32 :=
  if y = 0 then nI (gT a 0 0) else if y = 1 then nI (gT a 0 1) else if y = 2 then nI (gT a 0 2) else if y = 3 then gS a 67 else if y = 4 then gS a 65 else if y = 5 then gS a 66 else if y = 6 then gS a 64 else if y = 7 then sFg (gT a) (gS a) (nI (gT a 0 7)) else if y = 8 then nI (gY a).length else if y = 9 then nI (gH a).length else if y = 10 then nI (gD a).length else if y = 11 then hsV (gHs a) else if y = 12 then dnV (gT a) (gL a) (gS a) (gT a 0 1) else -1
section ModX
variable {l : Launch} {G : jG}
theorem loM.refl {μ : jM} : loM μ μ := ⟨rfl, fun _ _ => rfl⟩
theorem loM.trans {μ μ1 μ2 : jM} (h1 : loM μ μ1) (h2 : loM μ1 μ2) : loM μ μ2 := ⟨h2.1.trans h1.1, fun c hc => (h2.2 c hc).trans (h1.2 c hc)⟩
/-- a row taken up and changed is kept -/
theorem x_keeps (hG : gMM G) {μ μ1 : jM} {a : aS} {E : sR} (ha : mI a μ) (hP : gNN μ) (hq : mQ μ μ1) (hr : μ1.1 152 = E) (he : ∃ r, r ≤ 9 ∧ E 65 = nI r) : jC0 l mX12_keeps 1 G [.ref 112] μ1 (pV fun μ' => mI (aSH a E (push (gH a) (gS a))) μ' ∧ gNN μ' ∧ loM μ μ' ∧ μ'.1 151 = E) := by
  obtain ⟨h1, hP1, hlo⟩ := mI_q ha hq hP
  obtain ⟨⟨v, h1⟩, h2, h3, h4, h5, h6⟩ := h1
  refine (c_X12_keeps hG hP1 h1 h4 hr).mono (pV_mono ?_)
  rintro μ' ⟨oo, hP', hr', hh'⟩
  have hz : ∀ i, 68 ≤ i → E i = 0 := fun i hi => by rw [← hr]; exact h1.2.2.1 i hi
  exact ⟨⟨⟨v, txM_off oo ⟨by decide, by decide⟩ h1.1, hr', by rw [oo.c 152 (by decide) (by decide)]; exact h1.2.2.1, hz, he⟩, tapeM_off oo (by decide) (by decide) h2, by rw [oo.f 17 (by decide)]; exact h3, hh', slotM_off oo (by decide) (by decide) h5, dreamM_off oo (by decide) (by decide) (by decide) (by decide) h6⟩, hP', hlo.trans (oo.lo (by decide)), hr'⟩
theorem c_X12_gate (hG : gMM G) {μ : jM} (hP : gNN μ) {a : aS} (ha : mI a μ) (x y : Int32) : jC0 l mX12_gate 2 G [.ref 112, .int x, .int y] μ (pI fun z μ' => z = (dGate (gT a) (gS a) (gH a) x y).1 ∧ mI (aSH a (dGate (gT a) (gS a) (gH a) x y).2.1 (dGate (gT a) (gS a) (gH a) x y).2.2) μ' ∧ gNN μ' ∧ loM μ μ') := by
  refine jC0.of' (ls := [.ref 112, .int x, .int y]) rfl rfl rfl (fun _ _ => Nat.le_of_ble_eq_true rfl) ?_
  obtain ⟨v, hm⟩ := ha.1
  have no : ¬ (isN x (gT a 0 1) ∧ gtC (gS a) x y) → dGate (gT a) (gS a) (gH a) x y = (0, gS a, gH a) := fun h => if_neg h
  have yes : (isN x (gT a 0 1) ∧ gtC (gS a) x y) → dGate (gT a) (gS a) (gH a) x y = ((1 : Int32), upd (gS a) 64 (gS a 64 ^^^ (1 <<< (x &&& 31))), push (gH a) (gS a)) := fun h => if_pos h
  refine b_X12_gate_0 hG hP (c_X12_isRoad hG hP hm.1 x) ?_
  rintro z μ1 ⟨rfl, ⟨rfl, hx⟩ | ⟨rfl, hx⟩⟩
  · have tail : gtC (gS a) x y → ∀ μ2, (mQ μ1 μ2 ∧ mNow μ2 v (gT a) (gL a) (gS a) ∧ mRow μ2 (gT a) (gS a) ∧ gNN μ2 ∧ mOff [152] [58, 59, 60] μ1 μ2) → J l mX12_gate (jZ0 2 G (pI fun z μ' => z = (dGate (gT a) (gS a) (gH a) x y).1 ∧ mI (aSH a (dGate (gT a) (gS a) (gH a) x y).2.1 (dGate (gT a) (gS a) (gH a) x y).2.2) μ' ∧ gNN μ' ∧ loM μ1 μ')) G 0 0 38 [.ref 112, .int x, .null] [] μ2 := by
      rintro hg μ2 ⟨hq2, hm2, ⟨hr, -⟩, hP2, -⟩
      rw [yes ⟨hx, hg⟩]
      have e64 : (wI μ2 152 64 ((μ2.1 152 64) ^^^ (1 <<< (x &&& 31)))).1 152 = upd (gS a) 64 (gS a 64 ^^^ (1 <<< (x &&& 31))) := by rw [wI_eq, hr]
      have hqw : mQ μ2 (wI μ2 152 64 ((μ2.1 152 64) ^^^ (1 <<< (x &&& 31)))) := ⟨mOff_wC (by decide) (by decide), fun j hj => by rw [wI_off' (by omega)]; exact hm2.2.2.1 j hj⟩
      refine b_X12_gate_38 hG hP2 (x_keeps hG ha hP (hq2.trans hqw) e64 (by rw [upd_ne (by decide)]; exact hm.2.2.2.2)) ?_
      rintro μ3 ⟨h3, hP3, hlo, -⟩
      exact b_X12_gate_55 hG hP3 ⟨rfl, h3, hP3, hlo⟩
    have n0 : ¬ gtC (gS a) x y → (0 : Int32) = (dGate (gT a) (gS a) (gH a) x y).1 ∧ mI (aSH a (dGate (gT a) (gS a) (gH a) x y).2.1 (dGate (gT a) (gS a) (gH a) x y).2.2) μ1 ∧ gNN μ1 ∧ loM μ1 μ1 := fun h => by
      rw [no (fun z => h z.2)]; exact ⟨rfl, ha, hP, loM.refl⟩
    have e151 := hm.2.1
    refine b_X12_gate_5 hG hP (fun h => absurd h (by decide)) (fun _ _ _ => c_X12_copies hG hP hm) (fun _ h1 h2 => tail ?_) (fun _ h1 h2 => n0 (fun z => ?_)) (fun _ _ _ => c_X12_copies hG hP hm) (fun _ h1 h2 => tail ?_) (fun _ h1 h2 => n0 (fun z => ?_))
    · rw [e151] at h1; unfold gtC; rw [if_neg h1]; exact h2
    · rw [e151] at h1; unfold gtC at z; rw [if_neg h1] at z; exact z h2
    · rw [e151] at h1; unfold gtC; rw [if_pos h1]; exact h2
    · rw [e151] at h1; unfold gtC at z; rw [if_pos h1] at z; exact z h2
  · rw [no (fun z => hx z.1)]
    exact b_X12_gate_5 (ψ1 := fun _ => True) (ψ3 := fun _ => True) hG hP (fun _ => ⟨rfl, ha, hP, loM.refl⟩) (fun h => absurd rfl h) (fun h => absurd rfl h) (fun h => absurd rfl h) (fun h => absurd rfl h) (fun h => absurd rfl h) (fun h => absurd rfl h)
theorem c_X12_rate (hG : gMM G) {μ : jM} (hP : gNN μ) {a : aS} (ha : mI a μ) (x : Int32) : jC0 l mX12_rate 2 G [.ref 112, .int x] μ (pI fun z μ' => z = (dRate (gS a) (gH a) x).1 ∧ mI (aSH a (dRate (gS a) (gH a) x).2.1 (dRate (gS a) (gH a) x).2.2) μ' ∧ gNN μ' ∧ loM μ μ') := by
  refine jC0.of' (ls := [.ref 112, .int x]) rfl rfl rfl (fun _ _ => Nat.le_of_ble_eq_true rfl) ?_
  obtain ⟨v, hm⟩ := ha.1
  have no : ¬ (isN x 10 ∧ ¬ gS a 65 = x) → dRate (gS a) (gH a) x = (0, gS a, gH a) := fun h => if_neg h
  have yes : (isN x 10 ∧ ¬ gS a 65 = x) → dRate (gS a) (gH a) x = (1, upd (gS a) 65 x, push (gH a) (gS a)) := fun h => if_pos h
  have e151 := hm.2.1
  refine b_X12_rate_0 hG hP (c_X12_inN hG hP x (n := 9) rfl (by decide)) ?_
  rintro z μ1 ⟨rfl, ⟨rfl, hx⟩ | ⟨rfl, hx⟩⟩
  · refine b_X12_rate_7 hG hP (fun h => absurd h (by decide)) (fun _ _ => c_X12_copies hG hP hm) (fun _ h1 => ?_) (fun _ h1 => ?_)
    · rw [e151] at h1
      rw [yes ⟨hx, h1⟩]
      rintro μ2 ⟨hq2, hm2, ⟨hr, -⟩, hP2, -⟩
      have e64 : (wI μ2 152 65 x).1 152 = upd (gS a) 65 x := by rw [wI_eq, hr]
      have hqw : mQ μ2 (wI μ2 152 65 x) := ⟨mOff_wC (by decide) (by decide), fun j hj => by rw [wI_off' (by omega)]; exact hm2.2.2.1 j hj⟩
      obtain ⟨r, hr9, rfl⟩ := hx
      refine b_X12_rate_27 hG hP2 (x_keeps hG ha hP (hq2.trans hqw) e64 ⟨r, by omega, by rw [upd_at]⟩) ?_
      rintro μ3 ⟨h3, hP3, hlo, -⟩
      exact b_X12_rate_39 hG hP3 ⟨rfl, h3, hP3, hlo⟩
    · rw [e151] at h1
      rw [no (fun z => z.2 h1)]; exact ⟨rfl, ha, hP, loM.refl⟩
  · rw [no (fun z => hx z.1)]
    exact b_X12_rate_7 (ψ1 := fun _ => True) hG hP (fun _ => ⟨rfl, ha, hP, loM.refl⟩) (fun h => absurd rfl h) (fun h => absurd rfl h) (fun h => absurd rfl h)
theorem c_X12_mend (hG : gMM G) {μ : jM} (hP : gNN μ) {a : aS} (ha : mI a μ) (x : Int32) : jC0 l mX12_mend 2 G [.ref 112, .int x] μ (pI fun z μ' => z = (dMend (gT a) (gS a) (gH a) x).1 ∧ mI (aSH a (dMend (gT a) (gS a) (gH a) x).2.1 (dMend (gT a) (gS a) (gH a) x).2.2) μ' ∧ gNN μ' ∧ loM μ μ') := by
  refine jC0.of' (ls := [.ref 112, .int x]) rfl rfl rfl (fun _ _ => Nat.le_of_ble_eq_true rfl) ?_
  obtain ⟨v, hm⟩ := ha.1
  have h12 := hm.1.2.2.2.2.2.1.2.1
  have e151 := hm.2.1
  refine b_X12_mend_0 hG hP (c_X12_isRoad hG hP hm.1 x) ?_
  rintro z μ1 ⟨rfl, ⟨rfl, hx⟩ | ⟨rfl, hx⟩⟩
  · obtain ⟨k, hk, rfl⟩ := hx
    have ck : (nI k).toNatClampNeg = k := nI_clamp (by omega)
    have e0 : dMend (gT a) (gS a) (gH a) (nI k) = if ¬ gS a k = 0 ∧ gS a k ≤ gS a 66 then (gS a 66 - gS a k, upd (upd (gS a) 66 (gS a 66 - gS a k)) k 0, push (gH a) (gS a)) else (-2, gS a, gH a) := by
      unfold dMend; rw [if_pos ⟨k, hk, rfl⟩, ck]
    rw [e0]
    have n0 : ¬ (¬ gS a k = 0 ∧ gS a k ≤ gS a 66) → (fun z μ' => z = (if ¬ gS a k = 0 ∧ gS a k ≤ gS a 66 then ((gS a 66 - gS a k, upd (upd (gS a) 66 (gS a 66 - gS a k)) k 0, push (gH a) (gS a)) : Int32 × sR × List sR) else (-2, gS a, gH a)).1 ∧ mI (aSH a (if ¬ gS a k = 0 ∧ gS a k ≤ gS a 66 then ((gS a 66 - gS a k, upd (upd (gS a) 66 (gS a 66 - gS a k)) k 0, push (gH a) (gS a)) : Int32 × sR × List sR) else (-2, gS a, gH a)).2.1 (if ¬ gS a k = 0 ∧ gS a k ≤ gS a 66 then ((gS a 66 - gS a k, upd (upd (gS a) 66 (gS a 66 - gS a k)) k 0, push (gH a) (gS a)) : Int32 × sR × List sR) else (-2, gS a, gH a)).2.2) μ' ∧ gNN μ' ∧ loM μ1 μ') (-2 : Int32) μ1 := fun h => by
      simp only [if_neg h]; exact ⟨trivial, ha, hP, loM.refl⟩
    refine b_X12_mend_5 hG hP (fun _ => vp_in_nI (by omega) (by decide)) (fun _ h => n0 (fun z => ?_)) (fun _ _ _ => c_X12_copies hG hP hm) (fun _ h1 h2 => ?_) (fun _ h1 h2 => n0 (fun z => ?_)) (fun h => absurd h (by decide))
    · rw [ck, e151] at h; exact z.1 h
    · rw [ck, e151] at h1 h2
      have hc : ¬ gS a k = 0 ∧ gS a k ≤ gS a 66 := ⟨h1, h2⟩
      simp only [if_pos hc]
      rintro μ2 ⟨hq2, hm2, ⟨hr, -⟩, hP2, -⟩
      have ew : (wI (wI μ2 152 66 ((μ2.1 152 66) - (μ2.1 152 (nI k).toNatClampNeg))) 152 (nI k).toNatClampNeg 0).1 152 = upd (upd (gS a) 66 (gS a 66 - gS a k)) k 0 := by rw [ck, wI_eq, wI_eq, hr]
      have hqw : mQ μ2 (wI (wI μ2 152 66 ((μ2.1 152 66) - (μ2.1 152 (nI k).toNatClampNeg))) 152 (nI k).toNatClampNeg 0) := ⟨(mOff_wC (C := mQC) (F := mQF) (by decide) (by decide)).trans (mOff_wC (by decide) (by decide)), fun j hj => by rw [ck, wI_off' (by omega), wI_off' (by omega)]; exact hm2.2.2.1 j hj⟩
      refine b_X12_mend_42 hG hP2 (vp_in_nI (by omega) (by decide)) (x_keeps hG ha hP (hq2.trans hqw) ew (by rw [upd_ne (by omega), upd_ne (by decide)]; exact hm.2.2.2.2)) ?_
      rintro μ3 ⟨h3, hP3, hlo, hr3⟩
      refine b_X12_mend_69 hG hP3 ⟨?_, h3, hP3, hlo⟩
      rw [hr3, upd_ne (by omega), upd_at]
    · rw [ck, e151] at h2; exact h2 z.2
  · have e0 : dMend (gT a) (gS a) (gH a) x = (-1, gS a, gH a) := if_neg hx
    rw [e0]
    exact b_X12_mend_5 (ψ1 := fun _ => True) hG hP (fun h => absurd rfl h) (fun h => absurd rfl h) (fun h => absurd rfl h) (fun h => absurd rfl h) (fun h => absurd rfl h) (fun _ => ⟨rfl, ha, hP, loM.refl⟩)
theorem c_X12_nights (hG : gMM G) {μ : jM} (hP : gNN μ) {a : aS} (ha : mI a μ) (x : Int32) : jC0 l mX12_nights 9 G [.ref 112, .int x] μ (pI fun z μ' => z = (dNights (gT a) (gL a) (gS a) (gH a) x).1 ∧ mI (aSH a (dNights (gT a) (gL a) (gS a) (gH a) x).2.1 (dNights (gT a) (gL a) (gS a) (gH a) x).2.2) μ' ∧ gNN μ' ∧ loM μ μ') := by
  refine jC0.of' (ls := [.ref 112, .int x]) rfl rfl rfl (fun _ _ => Nat.le_of_ble_eq_true rfl) ?_
  obtain ⟨v, hm⟩ := ha.1
  have hv := hm.1.2.2.2.2.2
  have e151 := hm.2.1
  refine b_X12_nights_0 hG hP (c_X12_inN hG hP x (n := 30) rfl (by decide)) ?_
  rintro z μ1 ⟨rfl, ⟨rfl, hx⟩ | ⟨rfl, hx⟩⟩
  · refine b_X12_nights_7 hG hP (fun _ _ => c_X12_copies hG hP hm) (fun _ h0 => ?_) (fun _ h0 => ?_) (fun h => absurd h (by decide))
    · obtain ⟨n, hn, rfl⟩ := hx
      have e0 : dNights (gT a) (gL a) (gS a) (gH a) (nI n) = (nnS (gT a) (gL a) n (gS a) 67, nnS (gT a) (gL a) n (gS a), push (gH a) (gS a)) := by
        unfold dNights; rw [if_pos ⟨n, hn, rfl⟩, if_neg h0, nI_clamp (by omega)]
      rw [e0]
      rintro μ2 ⟨hq2, hm2, ⟨hr, hlo, hth, hod⟩, hP2, -⟩
      refine b_X12_nights_28 hG hP2 (q_goes hG hP2 hm2 hr hm.2.2.2.1 hod (rt_ok hm.2.2.2.2) (by omega)) ?_
      rintro μ3 ⟨hq3, hm3, hP3, -, hr3⟩
      rw [hlo, hth] at hr3
      have hr3' : μ3.1 152 = nnS (gT a) (gL a) n (gS a) := hr3
      have u65 : nnS (gT a) (gL a) n (gS a) 65 = gS a 65 := sNn_65 hv n
      refine b_X12_nights_33 hG hP3 (x_keeps hG ha hP (hq2.trans hq3) hr3' (by rw [u65]; exact hm.2.2.2.2)) ?_
      rintro μ4 ⟨h4, hP4, hlo4, hr4⟩
      exact b_X12_nights_37 hG hP4 ⟨by rw [hr4], h4, hP4, hlo4⟩
    · have e0 : dNights (gT a) (gL a) (gS a) (gH a) x = (gS a 67, gS a, gH a) := by unfold dNights; rw [if_pos hx, if_pos h0]
      rw [e0, e151]; exact ⟨rfl, ha, hP, loM.refl⟩
  · have e0 : dNights (gT a) (gL a) (gS a) (gH a) x = (-1, gS a, gH a) := if_neg hx
    rw [e0]
    exact b_X12_nights_7 (ψ0 := fun _ => True) hG hP (fun h => absurd rfl h) (fun h => absurd rfl h) (fun h => absurd rfl h) (fun _ => ⟨rfl, ha, hP, loM.refl⟩)
theorem c_X12_undo (hG : gMM G) {μ : jM} (hP : gNN μ) {a : aS} {B : Nat} (ha : mI a μ) (hk : aOK a B) : jC0 l mX12_undo 0 G [.ref 112] μ (pI fun z μ' => z = (dUndo (gS a) (gH a)).1 ∧ mI (aSH a (dUndo (gS a) (gH a)).2.1 (dUndo (gS a) (gH a)).2.2) μ' ∧ gNN μ' ∧ loM μ μ') := by
  refine jC0.of' (ls := [.ref 112, .null]) rfl rfl rfl (fun _ _ => Nat.le_of_ble_eq_true rfl) ?_
  obtain ⟨⟨v, h1⟩, h2, h3, ⟨g1, g2, g3⟩, h5, h6⟩ := id ha
  have h0 : (μ.1 112 66 = (0 : Int32)) ↔ (gH a).length = 0 := by rw [g1]; exact nI_eq (b := 0) (by omega) (by decide)
  refine b_X12_undo_0 hG hP (fun h => ?_) (fun h => ?_)
  · have hne : (gH a).length ≠ 0 := fun z => h (h0.mpr z)
    obtain ⟨n, hn⟩ : ∃ n, (gH a).length = n + 1 := ⟨(gH a).length - 1, by omega⟩
    have hlt : n < (gH a).length := by omega
    obtain ⟨R, hRe⟩ : ∃ R, (gH a)[n]? = some R := ⟨(gH a)[n], List.getElem?_eq_getElem hlt⟩
    have hlast : (gH a).getLast? = some R := by rw [List.getLast?_eq_getElem?, hn]; exact hRe
    have e0 : dUndo (gS a) (gH a) = (1, R, (gH a).dropLast) := by unfold dUndo; rw [hlast]
    rw [e0]
    have hRm : R ∈ gH a := List.mem_of_getElem? hRe
    have hRok := hk.2.1 R hRm
    have ow : mOff [] [66] μ (wI μ 112 66 ((μ.1 112 66) - 1)) := mOff_wF (by decide)
    have f66 : (wI μ 112 66 ((μ.1 112 66) - 1)).1 112 66 = nI n := by rw [wI_at, g1, hn, Int32.sub_eq_add_neg, nI_dec]
    obtain ⟨μ0, h0e⟩ : ∃ μ0, μ0 = wI μ 112 66 ((μ.1 112 66) - 1) := ⟨_, rfl⟩
    rw [← h0e] at ow f66 ⊢
    have hz151 : ∀ j, 68 ≤ j → μ0.1 151 j = 0 := fun j hj => by rw [ow.c 151 (by decide) (by decide), h1.2.1]; exact h1.2.2.2.1 j hj
    have loop : ∀ i, i ≤ 68 → ∀ μ1, mOff [151] [66] μ μ1 → mOff [151] [] μ0 μ1 → (∀ k, k < i → μ1.1 151 k = R k) → (∀ k, 68 ≤ k → μ1.1 151 k = 0) → J l mX12_undo (jZ0 0 G (pI fun z μ' => z = 1 ∧ mI (aSH a R (gH a).dropLast) μ' ∧ gNN μ' ∧ loM μ μ')) G 0 0 21 [.ref 112, .int (nI i)] [] μ1 := by
      refine up_loop 68 ?_ (fun i hi ih => ?_)
      · intro μ1 ho ho0 hr hz
        have hP1 := ho.gNN hP
        refine b_X12_undo_21 hG hP1 (fun _ => ⟨rfl, ⟨⟨v, txM_off ho ⟨by decide, by decide⟩ h1.1, ?_, by rw [ho.c 152 (by decide) (by decide)]; exact h1.2.2.1, hRok.1, hRok.2.2⟩, tapeM_off ho (by decide) (by decide) h2, by rw [ho.f 17 (by decide)]; exact h3, ⟨?_, ?_, ?_⟩, slotM_off ho (by decide) (by decide) h5, dreamM_off ho (by decide) (by decide) (by decide) (by decide) h6⟩, hP1, ho.lo (by decide)⟩) (fun h => absurd (by decide) h) (fun h => absurd (by decide) h) (fun h => absurd (by decide) h)
        · funext k
          by_cases hk : k < 68
          · exact hr k hk
          · rw [hz k (by omega)]; exact (hRok.1 k (by omega)).symm
        · show _ = nI (gH a).dropLast.length
          rw [ho0.f 66 (by decide), f66, List.length_dropLast, hn]; rfl
        · show (gH a).dropLast.length ≤ 40
          rw [List.length_dropLast]; omega
        · intro j Q hQ k hk
          have hQ' : (gH a).dropLast[j]? = some Q := hQ
          rw [ho.c 157 (by decide) (by decide)]
          refine g3 j Q ?_ k hk
          rw [List.getElem?_dropLast] at hQ'
          split at hQ'
          · exact hQ'
          · cases hQ'
      · intro μ1 ho ho0 hr hz
        have hP1 := ho.gNN hP
        have ei : (68 : Int32) * (μ1.1 112 66) + nI i = nI (68 * n + i) := by rw [ho0.f 66 (by decide), f66, show (68 : Int32) = nI 68 from rfl, pk_mul, nI_add]
        refine b_X12_undo_21 hG hP1 (fun h => absurd h (nI_ge (b := 68) hi (by decide))) (fun _ => by rw [ei]; exact vp_in_nI (by omega) (by decide)) (fun _ => vp_in_nI hi (by decide)) (fun _ => ?_)
        rw [ei, nI_clamp (by omega), nI_clamp (by omega), nI_inc, ho.c 157 (by decide) (by decide), g3 n R hRe i hi]
        have ow2 : ∀ {C F : List Nat}, 151 ∈ C → mOff C F μ1 (wI μ1 151 i (R i)) := fun hC => mOff_wC (by decide) hC
        refine ih _ (ho.trans (ow2 (by decide))) (ho0.trans (ow2 (by decide))) (fun k hk => ?_) (fun k hk => by rw [wI_off' (by omega)]; exact hz k hk)
        by_cases e : k = i
        · rw [e, wI_at]
        · rw [wI_off' e]; exact hr k (by omega)
    exact loop 0 (by omega) μ0 (ow.mono (by decide) (by decide)) mOff.refl (fun k hk => by omega) hz151
  · have hl := h0.mp h
    have : gH a = [] := List.eq_nil_of_length_eq_zero hl
    have e0 : dUndo (gS a) (gH a) = (0, gS a, gH a) := by unfold dUndo; rw [this]; rfl
    rw [e0]
    exact ⟨rfl, ha, hP, loM.refl⟩
end ModX
