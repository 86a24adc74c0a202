/-! WHAT STANDS BETWEEN CALLS: tape, place; text; row, rows for undo; SLOTS; what is TOLD -/
abbrev aS : Type := (List Int32 × Int32) × (sT × (Nat → sLaw)) × (sR × List sR) × ((Nat → Bool) × (Nat → sR)) × List (Nat × Nat × Nat)
abbrev gY (a : aS) : List Int32 := a.1.1
abbrev gPl (a : aS) : Int32 := a.1.2
abbrev gT (a : aS) : sT := a.2.1.1
abbrev gL (a : aS) : Nat → sLaw := a.2.1.2
abbrev gS (a : aS) : sR := a.2.2.1.1
abbrev gH (a : aS) : List sR := a.2.2.1.2
abbrev gHs (a : aS) : Nat → Bool := a.2.2.2.1.1
abbrev gSl (a : aS) : Nat → sR := a.2.2.2.1.2
abbrev gD (a : aS) : List (Nat × Nat × Nat) := a.2.2.2.2
def tapeM (μ : jM) (Y : List Int32) : Prop := μ.1 112 2 = nI Y.length ∧ Y.length ≤ 2000 ∧ ∀ (i : Nat) (b : Int32), Y[i]? = some b → μ.1 113 i = b
def histM (μ : jM) (H : List sR) : Prop := μ.1 112 66 = nI H.length ∧ H.length ≤ 40 ∧ ∀ (j : Nat) (R : sR), H[j]? = some R → ∀ k, k < 68 → μ.1 157 (68 * j + k) = R k
def slotM (μ : jM) (hs : Nat → Bool) (sl : Nat → sR) : Prop := ∀ s, s < 3 → (μ.1 165 s = if hs s = true then 1 else 0) ∧ (hs s = true → ∀ k, k < 68 → μ.1 166 (68 * s + k) = sl s k)
def dreamM (μ : jM) (D : List (Nat × Nat × Nat)) : Prop := μ.1 112 71 = nI D.length ∧ D.length ≤ 20 ∧ ∀ (i : Nat) (d : Nat × Nat × Nat), D[i]? = some d → μ.1 159 i = nI d.1 ∧ μ.1 160 i = nI d.2.1 ∧ μ.1 161 i = nI d.2.2
def okR (R : sR) (B : Nat) : Prop := (∀ i, 68 ≤ i → R i = 0) ∧ rgS R B ∧ ∃ r, r ≤ 9 ∧ R 65 = nI r
def aOK (a : aS) (B : Nat) : Prop := okR (gS a) B ∧ (∀ R ∈ gH a, okR R B) ∧ (∀ s, s < 3 → gHs a s = true → okR (gSl a s) B) ∧ ∀ d ∈ gD a, d.1 < gT a 0 1 ∧ d.2.1 ≤ 30 ∧ d.2.2 ≤ 1
def mI (a : aS) (μ : jM) : Prop := (∃ v, mNow μ v (gT a) (gL a) (gS a)) ∧ tapeM μ (gY a) ∧ μ.1 112 17 = gPl a ∧ histM μ (gH a) ∧ slotM μ (gHs a) (gSl a) ∧ dreamM μ (gD a)
def loM (μ μ' : jM) : Prop := μ'.2 = μ.2 ∧ ∀ c, c < 112 ∨ 167 ≤ c → μ'.1 c = μ.1 c
theorem mOff.lo {C F : List Nat} {μ μ' : jM} (h : mOff C F μ μ') (hc : ∀ c ∈ C, 112 ≤ c ∧ c < 167) : loM μ μ' := ⟨h.1, fun c hl => h.2.1 c (by omega) (fun z => by have := hc c z; omega)⟩
theorem tapeM_off {C F : List Nat} {μ μ' : jM} {Y : List Int32} (h : mOff C F μ μ') (hc : 113 ∉ C) (hf : 2 ∉ F) (ht : tapeM μ Y) : tapeM μ' Y := by
  unfold tapeM at ht ⊢; rw [h.c 113 (by decide) hc, h.f 2 hf]; exact ht
theorem histM_off {C F : List Nat} {μ μ' : jM} {H : List sR} (h : mOff C F μ μ') (hc : 157 ∉ C) (hf : 66 ∉ F) (ht : histM μ H) : histM μ' H := by
  unfold histM at ht ⊢; rw [h.c 157 (by decide) hc, h.f 66 hf]; exact ht
theorem slotM_off {C F : List Nat} {μ μ' : jM} {hs : Nat → Bool} {sl : Nat → sR} (h : mOff C F μ μ') (hc : 165 ∉ C) (hc2 : 166 ∉ C) (ht : slotM μ hs sl) : slotM μ' hs sl := by
  unfold slotM at ht ⊢; rw [h.c 165 (by decide) hc, h.c 166 (by decide) hc2]; exact ht
theorem dreamM_off {C F : List Nat} {μ μ' : jM} {D : List (Nat × Nat × Nat)} (h : mOff C F μ μ') (hc : 159 ∉ C) (hc2 : 160 ∉ C) (hc3 : 161 ∉ C) (hf : 71 ∉ F) (ht : dreamM μ D) : dreamM μ' D := by
  unfold dreamM at ht ⊢; rw [h.c 159 (by decide) hc, h.c 160 (by decide) hc2, h.c 161 (by decide) hc3, h.f 71 hf]; exact ht
/-- what was asked leaves all as it is -/
theorem mI_q {a : aS} {μ μ' : jM} (h : mI a μ) (hq : mQ μ μ') (hP : gNN μ) : mI a μ' ∧ gNN μ' ∧ loM μ μ' := by
  obtain ⟨⟨v, h1⟩, h2, h3, h4, h5, h6⟩ := h
  exact ⟨⟨⟨v, hq.now h1⟩, tapeM_off hq.1 (by decide) (by decide) h2, by rw [hq.1.f 17 (by decide)]; exact h3, histM_off hq.1 (by decide) (by decide) h4, slotM_off hq.1 (by decide) (by decide) h5, dreamM_off hq.1 (by decide) (by decide) (by decide) (by decide) h6⟩, hq.1.gNN hP, hq.1.lo (by decide)⟩
/-! bytes -/
def byt (x s : Int32) : Int32 := vp_nar .byte (Int8.toInt32 (Int32.toInt8 (x >>> (s &&& 31))))
def by4 (x : Int32) : List Int32 := [byt x 24, byt x 16, byt x 8, byt x 0]
def by20 (x1 x2 x3 x4 x5 : Int32) : List Int32 := by4 x1 ++ (by4 x2 ++ (by4 x3 ++ (by4 x4 ++ by4 x5)))
theorem tape_add {μ : jM} {Y : List Int32} {b : Int32} (h : tapeM μ Y) (hl : Y.length < 2000) : tapeM (wI (wI μ 113 (μ.1 112 2).toNatClampNeg b) 112 2 ((μ.1 112 2) + 1)) (Y ++ [b]) ∧ mOff [113] [2] μ (wI (wI μ 113 (μ.1 112 2).toNatClampNeg b) 112 2 ((μ.1 112 2) + 1)) := by
  obtain ⟨h1, h2, h3⟩ := h
  refine ⟨⟨?_, by simp; omega, fun i c hc => ?_⟩, (mOff_wC (by decide) (by decide)).trans (mOff_wF (by decide))⟩
  · rw [wI_at, h1, nI_inc]; simp
  · rw [wI_ne (by decide), h1, nI_clamp (by omega)]
    by_cases e : i = Y.length
    · rw [e, wI_at]
      rw [e] at hc
      simp at hc
      exact hc
    · have hi : i < Y.length := by
        have := (List.getElem?_eq_some_iff.mp hc).1
        simp at this; omega
      rw [wI_off' e]
      rw [List.getElem?_append_left hi] at hc
      exact h3 i c hc
noncomputable def dFeed (Y : List Int32) (x1 x2 x3 x4 x5 : Int32) : Int32 × List Int32 := if Y.length + 20 ≤ 2000 then (nI (Y.length + 20), Y ++ by20 x1 x2 x3 x4 x5) else (-1, Y)
noncomputable def dBack (Y : List Int32) (x : Int32) : Int32 × List Int32 := @ite _ (isN x (Y.length + 1)) (Classical.propDecidable _) (nI (Y.length - x.toNatClampNeg), Y.take (Y.length - x.toNatClampNeg)) (-1, Y)
def aY (a : aS) (Y : List Int32) : aS := ((Y, gPl a), a.2)
/-! rows kept -/
def push (H : List sR) (S : sR) : List sR := if H.length = 40 then H.tail ++ [S] else H ++ [S]
def aSH (a : aS) (S : sR) (H : List sR) : aS := (a.1, a.2.1, (S, H), a.2.2.2)
theorem push_len {H : List sR} {S : sR} (h : H.length ≤ 40) : (push H S).length ≤ 40 := by
  unfold push; split
  · simp; omega
  · simp; omega
theorem push_mem {H : List sR} {S R : sR} (h : R ∈ push H S) : R ∈ H ∨ R = S := by
  unfold push at h
  split at h
  · rcases List.mem_append.mp h with h | h
    · exact Or.inl (List.mem_of_mem_tail h)
    · exact Or.inr (List.mem_singleton.mp h)
  · rcases List.mem_append.mp h with h | h
    · exact Or.inl h
    · exact Or.inr (List.mem_singleton.mp h)
section ModW
variable {l : Launch} {G : jG}
theorem c_X12_tapes (hG : gMM G) {μ : jM} (hP : gNN μ) {Y : List Int32} (h : tapeM μ Y) (hl : Y.length + 4 ≤ 2000) (x : Int32) : jC0 l mX12_tapes 0 G [.ref 112, .int x] μ (pV fun μ' => tapeM μ' (Y ++ by4 x) ∧ mOff [113] [2] μ μ') := by
  refine jC0.of' (ls := [.ref 112, .int x, .null]) rfl rfl rfl (fun _ _ => Nat.le_of_ble_eq_true rfl) ?_
  have ix : ∀ {μ : jM} {Y : List Int32}, tapeM μ Y → Y.length < 2000 → vp_in (μ.1 112 2) 2000 := fun h h2 => by rw [h.1]; exact vp_in_nI h2 (by decide)
  have e4 : Y ++ by4 x = (((Y ++ [byt x 24]) ++ [byt x 16]) ++ [byt x 8]) ++ [byt x 0] := by simp [by4]
  rw [e4]
  refine b_X12_tapes_0 hG hP ?_
  obtain ⟨t1, o1⟩ := tape_add (b := byt x 24) h (by omega)
  have P1 := o1.gNN hP
  refine b_X12_tapes_3 hG hP (fun h => absurd h (by decide)) (fun _ => ix h (by omega)) (fun _ => ?_)
  obtain ⟨t2, o2⟩ := tape_add (b := byt x 16) t1 (by simp; omega)
  have P2 := o2.gNN P1
  refine b_X12_tapes_3 hG P1 (fun h => absurd h (by decide)) (fun _ => ix t1 (by simp; omega)) (fun _ => ?_)
  obtain ⟨t3, o3⟩ := tape_add (b := byt x 8) t2 (by simp; omega)
  have P3 := o3.gNN P2
  refine b_X12_tapes_3 hG P2 (fun h => absurd h (by decide)) (fun _ => ix t2 (by simp; omega)) (fun _ => ?_)
  obtain ⟨t4, o4⟩ := tape_add (b := byt x 0) t3 (by simp; omega)
  have P4 := o4.gNN P3
  refine b_X12_tapes_3 hG P3 (fun h => absurd h (by decide)) (fun _ => ix t3 (by simp; omega)) (fun _ => ?_)
  exact b_X12_tapes_3 hG P4 (fun _ => ⟨t4, ((o1.trans o2).trans o3).trans o4⟩) (fun h => absurd (by decide) h) (fun h => absurd (by decide) h)
theorem c_X12_feed (hG : gMM G) {μ : jM} (hP : gNN μ) {a : aS} (ha : mI a μ) (x1 x2 x3 x4 x5 : Int32) : jC0 l mX12_feed 1 G [.ref 112, .int x1, .int x2, .int x3, .int x4, .int x5] μ (pI fun z μ' => z = (dFeed (gY a) x1 x2 x3 x4 x5).1 ∧ mI (aY a (dFeed (gY a) x1 x2 x3 x4 x5).2) μ' ∧ gNN μ' ∧ loM μ μ') := by
  refine jC0.of' (ls := [.ref 112, .int x1, .int x2, .int x3, .int x4, .int x5]) rfl rfl rfl (fun _ _ => Nat.le_of_ble_eq_true rfl) ?_
  obtain ⟨⟨v, h1⟩, h2, h3, h4, h5, h6⟩ := id ha
  have hle : ((μ.1 112 2) + 20 ≤ (2000 : Int32)) ↔ (gY a).length + 20 ≤ 2000 := by
    rw [h2.1, show (20 : Int32) = nI 20 from rfl, nI_add]; exact nI_leI (b := 2000) (by have := h2.2.1; omega) (by decide)
  unfold dFeed
  by_cases hc : (gY a).length + 20 ≤ 2000
  · rw [if_pos hc]
    refine b_X12_feed_0 hG hP (fun _ => c_X12_tapes hG hP h2 (by omega) x1) (fun _ => ?_) (fun h => absurd (hle.mpr hc) h)
    rintro μ1 ⟨t1, o1⟩
    have P1 := o1.gNN hP
    have L4 : ∀ (Y : List Int32) x, (Y ++ by4 x).length = Y.length + 4 := fun Y x => by simp [by4]
    refine b_X12_feed_20 hG P1 (c_X12_tapes hG P1 t1 (by rw [L4]; omega) x2) ?_
    rintro μ2 ⟨t2, o2⟩
    have P2 := o2.gNN P1
    refine b_X12_feed_25 hG P2 (c_X12_tapes hG P2 t2 (by rw [L4, L4]; omega) x3) ?_
    rintro μ3 ⟨t3, o3⟩
    have P3 := o3.gNN P2
    refine b_X12_feed_30 hG P3 (c_X12_tapes hG P3 t3 (by rw [L4, L4, L4]; omega) x4) ?_
    rintro μ4 ⟨t4, o4⟩
    have P4 := o4.gNN P3
    refine b_X12_feed_36 hG P4 (c_X12_tapes hG P4 t4 (by rw [L4, L4, L4, L4]; omega) x5) ?_
    rintro μ5 ⟨t5, o5⟩
    have P5 := o5.gNN P4
    have oo := (((o1.trans o2).trans o3).trans o4).trans o5
    have ee : gY a ++ by4 x1 ++ by4 x2 ++ by4 x3 ++ by4 x4 ++ by4 x5 = gY a ++ by20 x1 x2 x3 x4 x5 := by simp [by20, List.append_assoc]
    rw [ee] at t5
    refine b_X12_feed_42 hG P5 ⟨?_, ⟨⟨v, txM_off oo ⟨by decide, by decide⟩ h1.1, by rw [oo.c 151 (by decide) (by decide)]; exact h1.2.1, by rw [oo.c 152 (by decide) (by decide)]; exact h1.2.2.1, h1.2.2.2⟩, t5, by rw [oo.f 17 (by decide)]; exact h3, histM_off oo (by decide) (by decide) h4, slotM_off oo (by decide) (by decide) h5, dreamM_off oo (by decide) (by decide) (by decide) (by decide) h6⟩, P5, oo.lo (by decide)⟩
    rw [t5.1]
    congr 1
    simp [by20, by4]
  · rw [if_neg hc]
    exact b_X12_feed_0 (ψ0 := fun _ => True) hG hP (fun h => absurd (hle.mp h) hc) (fun h => absurd (hle.mp h) hc) (fun _ => ⟨rfl, ha, hP, rfl, fun _ _ => rfl⟩)
theorem c_X12_back (hG : gMM G) {μ : jM} (hP : gNN μ) {a : aS} (ha : mI a μ) (x : Int32) : jC0 l mX12_back 0 G [.ref 112, .int x] μ (pI fun z μ' => z = (dBack (gY a) x).1 ∧ mI (aY a (dBack (gY a) x).2) μ' ∧ gNN μ' ∧ loM μ μ') := by
  refine jC0.of' (ls := [.ref 112, .int x]) rfl rfl rfl (fun _ _ => Nat.le_of_ble_eq_true rfl) ?_
  obtain ⟨⟨v, h1⟩, h2, h3, h4, h5, h6⟩ := id ha
  have hl := h2.2.1
  have no : ¬ isN x ((gY a).length + 1) → dBack (gY a) x = (-1, gY a) := fun h => if_neg h
  refine b_X12_back_0 hG hP (fun h => ?_) (fun h0 h => ?_) (fun h0 h => ?_)
  · rw [no (isN_lt h (by omega))]; exact ⟨rfl, ha, hP, rfl, fun _ _ => rfl⟩
  · rw [h2.1] at h
    have hx : isN x ((gY a).length + 1) := (isN_in (x := x) (a := 0) (b := nI (gY a).length) (by omega) rfl rfl).mp ⟨by rw [i32_lt] at h0; rw [i32_le]; omega, h⟩
    obtain ⟨k, hk, rfl⟩ := hx
    have yes : dBack (gY a) (nI k) = (nI ((gY a).length - k), (gY a).take ((gY a).length - k)) := by
      unfold dBack; rw [if_pos ⟨k, hk, rfl⟩, nI_clamp (by omega)]
    rw [yes, h2.1, nI_subN (by omega)]
    have oo : mOff [] [2] μ (wI μ 112 2 (nI ((gY a).length - k))) := mOff_wF (by decide)
    refine ⟨rfl, ⟨⟨v, txM_off oo ⟨by decide, by decide⟩ h1.1, by rw [oo.c 151 (by decide) (by decide)]; exact h1.2.1, by rw [oo.c 152 (by decide) (by decide)]; exact h1.2.2.1, h1.2.2.2⟩, ⟨?_, ?_, fun i b hb => ?_⟩, by rw [oo.f 17 (by decide)]; exact h3, histM_off oo (by decide) (by decide) h4, slotM_off oo (by decide) (by decide) h5, dreamM_off oo (by decide) (by decide) (by decide) (by decide) h6⟩, hP, oo.lo (by decide)⟩
    · show _ = nI ((gY a).take ((gY a).length - k)).length
      rw [wI_at, List.length_take, Nat.min_eq_left (by omega)]
    · show ((gY a).take ((gY a).length - k)).length ≤ 2000
      rw [List.length_take]; omega
    · have hb' : ((gY a).take ((gY a).length - k))[i]? = some b := hb
      rw [wI_ne (by decide)]
      refine h2.2.2 i b ?_
      rw [List.getElem?_take] at hb'
      split at hb'
      · exact hb'
      · cases hb'
  · rw [h2.1] at h
    rw [no (fun ⟨k, hk, e⟩ => h (by rw [e]; exact nI_le (by omega) (by omega)))]; exact ⟨rfl, ha, hP, rfl, fun _ _ => rfl⟩
theorem c_X12_place (hG : gMM G) {μ : jM} (hP : gNN μ) {a : aS} (ha : mI a μ) : jC0 l mX12_place 0 G [.ref 112] μ (pI fun z μ' => z = gPl a ∧ mI a μ' ∧ gNN μ' ∧ loM μ μ') := by
  refine jC0.of' (ls := [.ref 112]) rfl rfl rfl (fun _ _ => Nat.le_of_ble_eq_true rfl) ?_
  exact b_X12_place_0 hG hP ⟨ha.2.2.1, ha, hP, rfl, fun _ _ => rfl⟩
/-- the row taken up is kept; the one that was goes into the history -/
theorem c_X12_keeps (hG : gMM G) {μ : jM} (hP : gNN μ) {v : Nat} {T : sT} {Lw : Nat → sLaw} {S E : sR} {H : List sR} (hm : mNow μ v T Lw S) (hh : histM μ H) (hr : μ.1 152 = E) : jC0 l mX12_keeps 1 G [.ref 112] μ (pV fun μ' => mOff [151, 157] [66] μ μ' ∧ gNN μ' ∧ μ'.1 151 = E ∧ histM μ' (push H S)) := by
  refine jC0.of' (ls := [.ref 112, .null]) rfl rfl rfl (fun _ _ => Nat.le_of_ble_eq_true rfl) ?_
  obtain ⟨g1, g2, g3⟩ := id hh
  -- from the second loop on
  have tail : ∀ (μ1 : jM) (H1 : List sR), gNN μ1 → mOff [151, 157] [66] μ μ1 → μ1.1 151 = S → H1.length < 40 → μ1.1 112 66 = nI H1.length → (∀ (j : Nat) (R : sR), H1[j]? = some R → ∀ k, k < 68 → μ1.1 157 (68 * j + k) = R k) → J l mX12_keeps (jZ0 1 G (pV fun μ' => mOff [151, 157] [66] μ μ' ∧ gNN μ' ∧ μ'.1 151 = E ∧ histM μ' (H1 ++ [S]))) G 0 0 51 [.ref 112, .int 0] [] μ1 := by
    intro μ1 H1 hP1 ho1 hs1 hl1 hf1 hh1
    have loop : ∀ i, i ≤ 68 → ∀ μ2, mOff [151, 157] [66] μ μ2 → mOff [157] [] μ1 μ2 → (∀ k, k < 68 * H1.length → μ2.1 157 k = μ1.1 157 k) → (∀ k, k < i → μ2.1 157 (68 * H1.length + k) = S k) → J l mX12_keeps (jZ0 1 G (pV fun μ' => mOff [151, 157] [66] μ μ' ∧ gNN μ' ∧ μ'.1 151 = E ∧ histM μ' (H1 ++ [S]))) G 0 0 51 [.ref 112, .int (nI i)] [] μ2 := by
      refine up_loop 68 ?_ (fun i hi ih => ?_)
      · intro μ2 ho2 ho12 hb hs
        have hP2 := ho2.gNN hP
        have e152 : ∀ c, c = 151 ∨ c = 152 → μ2.1 c = μ1.1 c := by rintro c (rfl | rfl); exact ho12.c 151 (by decide) (by decide); exact ho12.c 152 (by decide) (by decide)
        have r152 : μ2.1 152 = E := by rw [ho2.c 152 (by decide) (by decide)]; exact hr
        have f66 : μ2.1 112 66 = nI H1.length := by rw [ho12.f 66 (by decide)]; exact hf1
        obtain ⟨μ3, h3⟩ : ∃ μ3, μ3 = wI μ2 112 66 ((μ2.1 112 66) + 1) := ⟨_, rfl⟩
        have ho3 : mOff [] [66] μ2 μ3 := by rw [h3]; exact mOff_wF (by decide)
        have hP3 := ho3.gNN hP2
        have hkr := c_X12_keepsRow (l := l) hG hP3 (fun j hj => by
          rw [ho3.c 151 (by decide) (by decide), ho3.c 152 (by decide) (by decide), e152 151 (Or.inl rfl), hs1, r152, ← hr]
          rw [hm.2.2.1 j hj, hm.2.2.2.1 j hj])
        refine b_X12_keeps_51 hG hP2 (fun _ => by rw [← h3]; exact hkr) (fun _ => ?_) (fun h => absurd (by decide) h) (fun h => absurd (by decide) h) (fun h => absurd (by decide) h)
        · rintro μ4 ⟨ho4, hr4⟩
          refine b_X12_keeps_97 hG (ho4.gNN hP3) ⟨(ho2.trans (ho3.mono (by decide) (by decide))).trans (ho4.mono (by decide) (by decide)), ho4.gNN hP3, ?_, ?_, ?_, ?_⟩
          · rw [hr4, ho3.c 152 (by decide) (by decide)]; exact r152
          · rw [ho4.f 66 (by decide), h3, wI_at, f66, nI_inc]; simp
          · simp; omega
          · intro j R hR k hk
            rw [ho4.c 157 (by decide) (by decide), ho3.c 157 (by decide) (by decide)]
            by_cases e : j = H1.length
            · rw [e] at hR ⊢
              simp at hR
              rw [← hR]; exact hs k hk
            · have hj : j < H1.length := by
                have := (List.getElem?_eq_some_iff.mp hR).1
                simp at this; omega
              rw [List.getElem?_append_left hj] at hR
              rw [hb _ (by omega)]
              exact hh1 j R hR k hk
      · intro μ2 ho2 ho12 hb hs
        have hP2 := ho2.gNN hP
        have f66 : μ2.1 112 66 = nI H1.length := by rw [ho12.f 66 (by decide)]; exact hf1
        have ei : (68 : Int32) * (μ2.1 112 66) + nI i = nI (68 * H1.length + i) := by rw [f66, show (68 : Int32) = nI 68 from rfl, pk_mul, nI_add]
        refine b_X12_keeps_51 (ψ0 := fun _ => True) hG hP2 (fun h => absurd h (nI_ge (b := 68) hi (by decide))) (fun h => absurd h (nI_ge (b := 68) hi (by decide))) (fun _ => vp_in_nI hi (by decide)) (fun _ => by rw [ei]; exact vp_in_nI (by omega) (by decide)) (fun _ => ?_)
        rw [ei, nI_clamp (by omega), nI_clamp (by omega), nI_inc, ho12.c 151 (by decide) (by decide), hs1]
        have ow : ∀ {C F : List Nat}, 157 ∈ C → mOff C F μ2 (wI μ2 157 (68 * H1.length + i) (S i)) := fun hC => mOff_wC (by decide) hC
        refine ih _ (ho2.trans (ow (by decide))) (ho12.trans (ow (by decide))) (fun k hk => by rw [wI_off' (by omega)]; exact hb k hk) (fun k hk => ?_)
        by_cases e : k = i
        · rw [e, wI_at]
        · rw [wI_off' (by omega)]; exact hs k (by omega)
    exact loop 0 (by omega) μ1 ho1 mOff.refl (fun _ _ => rfl) (fun k hk => by omega)
  have h40 : (μ.1 112 66 = (40 : Int32)) ↔ H.length = 40 := by rw [g1]; exact nI_eq (b := 40) (by omega) (by decide)
  refine b_X12_keeps_0 hG hP (fun h => ?_) (fun h => ?_)
  · have hn : H.length ≠ 40 := fun z => h (h40.mpr z)
    have : push H S = H ++ [S] := if_neg hn
    rw [this]
    exact tail μ H hP mOff.refl hm.2.1 (by omega) g1 g3
  · have hn := h40.mp h
    have : push H S = H.tail ++ [S] := if_pos hn
    rw [this]
    have loop : ∀ i, i ≤ 2652 → ∀ μ1, mOff [157] [] μ μ1 → (∀ k, k < i → μ1.1 157 k = μ.1 157 (k + 68)) → (∀ k, i ≤ k → μ1.1 157 k = μ.1 157 k) → J l mX12_keeps (jZ0 1 G (pV fun μ' => mOff [151, 157] [66] μ μ' ∧ gNN μ' ∧ μ'.1 151 = E ∧ histM μ' (H.tail ++ [S]))) G 0 0 11 [.ref 112, .int (nI i)] [] μ1 := by
      refine up_loop 2652 ?_ (fun i hi ih => ?_)
      · intro μ1 ho hlo hhi
        have hP1 := ho.gNN hP
        refine b_X12_keeps_11 hG hP1 (fun _ => ?_) (fun h => absurd (by decide) h) (fun h => absurd (by decide) h) (fun h => absurd (by decide) h)
        have f66 : μ1.1 112 66 = nI 40 := by rw [ho.f 66 (by decide), g1, hn]
        rw [f66, show nI 40 - 1 = nI 39 from by decide]
        have ow : mOff [] [66] μ1 (wI μ1 112 66 (nI 39)) := mOff_wF (by decide)
        refine tail _ H.tail hP1 ((ho.mono (by decide) (by decide)).trans (ow.mono (by decide) (by decide))) (by rw [ow.c 151 (by decide) (by decide), ho.c 151 (by decide) (by decide)]; exact hm.2.1) (by simp; omega) (by rw [wI_at]; congr 1; simp; omega) (fun j R hR k hk => ?_)
        have hj : j < 39 := by
          have := (List.getElem?_eq_some_iff.mp hR).1
          simp at this; omega
        rw [ow.c 157 (by decide) (by decide), hlo _ (by omega), show 68 * j + k + 68 = 68 * (j + 1) + k by omega]
        refine g3 (j + 1) R ?_ k hk
        rw [List.getElem?_tail] at hR
        exact hR
      · intro μ1 ho hlo hhi
        have hP1 := ho.gNN hP
        have e68 : nI i + (68 : Int32) = nI (i + 68) := nI_add i 68
        refine b_X12_keeps_11 hG hP1 (fun h => absurd h (nI_ge (b := 2652) hi (by decide))) (fun _ => by rw [e68]; exact vp_in_nI (by omega) (by decide)) (fun _ => vp_in_nI (by omega) (by decide)) (fun _ => ?_)
        rw [e68, nI_clamp (by omega), nI_clamp (by omega), nI_inc, hhi (i + 68) (by omega)]
        refine ih _ (ho.trans (mOff_wC (by decide) (by decide))) (fun k hk => ?_) (fun k hk => ?_)
        · by_cases e : k = i
          · rw [e, wI_at]
          · rw [wI_off' e]; exact hlo k (by omega)
        · rw [wI_off' (by omega)]; exact hhi k (by omega)
    exact loop 0 (by omega) μ mOff.refl (fun k hk => by omega) (fun _ _ => rfl)
end ModW
