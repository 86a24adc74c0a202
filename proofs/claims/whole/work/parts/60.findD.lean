/-! THE CLASS: findWay -/
/-- the cells that a GHOST's WAY's finding writes -/
def fnI (t a c : Nat) : Prop := (17 + 5 * a ≤ c ∧ c ≤ 17 + 5 * a + 4) ∨ scI t c
theorem sPr_OK {T : sT} {Lw : Nat → sLaw} (hv : vT T Lw) {S : sR} {lots od : Int32} {a : Nat} : prOK T (sPr T Lw S lots od a) := fun k hk => by
  have h3 := hv.2.1 k hk
  have := sPr_in (Lw := Lw) (S := S) (lots := lots) (od := od) (a := a) ⟨h3.2.2.2.1, h3.2.2.2.2.1⟩
  refine ⟨this.1, ?_⟩
  by_cases z : sDn T Lw S k
  · exact Or.inr (this.2.2.1 z)
  · exact Or.inl (this.2.2.2 z).1
section FindC
variable {l : Launch} {G : jG}
set_option maxHeartbeats 1000000 in
theorem c_X10_findWay (hG : gGG G) {μ : jM} (hP : gPP μ) {t r a B : Nat} {T : sT} {Lw : Nat → sLaw} {S : sR} {od lots th : Int32} (hS : enS G μ t r T Lw S od lots th B) (ha : a < T 0 2) :
    jC0 l mX10_findWay 3 G [.ref 12, .int (nI a)] μ (pI fun x μ' => x = (if sDs T Lw lots od S a (T 5 a) < INF then 1 else 0) ∧ cOff (fnI t a) (scL t) μ μ' ∧ enS G μ' t r T Lw S od lots th B ∧ μ'.1 (17 + 5 * a) 1 = 0 ∧ wyC μ' (17 + 5 * a) T (sPr T Lw S lots od a) (T 6 a) (T 5 a)) := by
  refine jC0.of' (ls := [.ref 12, .int (nI a), .null, .null, .null]) rfl rfl rfl (fun _ _ => Nat.le_of_ble_eq_true rfl) ?_
  obtain ⟨hA, hD, hWs⟩ := id hS
  obtain ⟨hW, hr, hrest⟩ := id hA
  obtain ⟨ht, q0, q5, hr3, hgr, hx, hkc⟩ := id hW
  have hv := hx.2.2.2.2.2
  have h12 := hv.1.2.1
  have h7 := hv.1.2.2.1
  have ht2 := hx.1
  have hprOK := sPr_OK hv (S := S) (lots := lots) (od := od) (a := a)
  have hy0 := tO_way hG hP (show a < 7 by omega)
  have hwa := hWs a ha
  have hothers : ∀ (μ1 : jM), cOff (fnI t a) (scL t) μ μ1 → ∀ b, b < T 0 2 → b ≠ a → wyE μ1 (17 + 5 * b) T Lw S od lots b := by
    intro μ1 ho b hb hba
    have hc : ∀ i, i < 4 → μ1.1 (17 + 5 * b + i) = μ.1 (17 + 5 * b + i) := fun i hi => ho.2.1 _ (by unfold fnI scI; omega)
    exact wyE_mem (hc 0 (by decide)) (hc 1 (by decide)) (hc 2 (by decide)) (hc 3 (by decide)) (hWs b hb)
  have hAof : ∀ (μ1 : jM), cOff (fnI t a) (scL t) μ μ1 → kcI μ1 t T Lw → enA G μ1 t r T Lw S od lots th B := by
    intro μ1 ho hk1
    refine enA_off ho (by rw [ho.2.1 12 (by unfold fnI scI; omega)]) hk1 (fun c hc => ?_) (fun c hc => hc) hA
    rcases hc with h | h
    · omega
    · exact Or.inr (Or.inr h)
  have hDof : ∀ (μ1 : jM), cOff (fnI t a) (scL t) μ μ1 → dnI μ1 T Lw S := by
    intro μ1 ho
    unfold dnI
    rw [ho.2.1 12 (by unfold fnI scI; omega)]; exact hD
  obtain ⟨y, hye⟩ : ∃ y, y = 17 + 5 * a := ⟨_, rfl⟩
  rw [← hye] at hy0 hwa ⊢
  have hyr : 17 ≤ y ∧ y ≤ 47 := by omega
  have yIn : ∀ c, y ≤ c → c ≤ y + 4 → fnI t a c := fun c h1 h2 => Or.inl (by omega)
  have ia : vp_in (nI a) 7 := vp_in_nI (by omega) (by decide)
  have hwr : μ.2.2 13 (nI a).toNatClampNeg = some y := by rw [nI_clamp (by omega), hye]; exact way_ref hP (by omega)
  obtain ⟨D, hDe⟩ : ∃ D, D = μ.1 y 1 := ⟨_, rfl⟩
  obtain ⟨φ, hφ⟩ : ∃ φ : Int32 → jM → Prop, φ = fun x μ' => x = (if sDs T Lw lots od S a (T 5 a) < INF then 1 else 0) ∧ cOff (fnI t a) (scL t) μ μ' ∧ enS G μ' t r T Lw S od lots th B ∧ μ'.1 y 1 = 0 ∧ wyC μ' y T (sPr T Lw S lots od a) (T 6 a) (T 5 a) := ⟨_, rfl⟩
  rw [← hφ]
  have hdsI : sDs T Lw lots od S a (T 5 a) ≤ INF := (sD_is hv (goal := T 6 a) (fun k hk => (hprOK k hk).1)).2.1 _
  -- the end: a WAY that is right
  have fin : ∀ (μ1 : jM), cOff (fnI t a) (scL t) μ μ1 → kcI μ1 t T Lw → μ1.1 y 1 = 0 → ¬ μ1.1 y 0 = 0 → (∀ k, k < T 0 1 → prE μ1 y T Lw S od lots a k) → wyC μ1 y T (sPr T Lw S lots od a) (T 6 a) (T 5 a) → φ (if sDs T Lw lots od S a (T 5 a) < INF then 1 else 0) μ1 := by
    intro μ1 ho hk1 h1 h0 hp hw
    rw [hφ]
    refine ⟨rfl, ho, ⟨hAof μ1 ho hk1, hDof μ1 ho, fun b hb => ?_⟩, h1, hw⟩
    by_cases hba : b = a
    · subst hba
      rw [← hye]
      exact ⟨Or.inr ⟨_, hprOK, fun k hk => (hp k hk).1, hw⟩, fun k hk _ => hp k hk⟩
    · exact hothers μ1 ho b hb hba
  -- behind the last ROAD
  have atEnd : ∀ (μ1 : jM), cOff (fnI t a) (scL t) μ μ1 → kcI μ1 t T Lw → μ1.1 y 1 = 0 → wyK μ1 y T a → (∀ k, k < T 0 1 → prE μ1 y T Lw S od lots a k) →
      (¬ μ1.1 y 0 = 0 → jC0 l mX9_isThere 0 G [.ref y] μ1 (pI φ)) ∧ (μ1.1 y 0 = 0 → jC0 l mX9_seek 2 G [.ref y, .ref t, .int (nI a)] μ1 (pV fun μ2 => jC0 l mX9_isThere 0 G [.ref y] μ2 (pI φ) ∧ gPP μ2 ∧ tO gWay pWay G μ2 y)) := by
    intro μ1 ho hk1 h1 hK hp
    have hthere : ∀ μ2, cOff (fnI t a) (scL t) μ μ2 → kcI μ2 t T Lw → μ2.1 y 1 = 0 → ¬ μ2.1 y 0 = 0 → (∀ k, k < T 0 1 → prE μ2 y T Lw S od lots a k) → wyC μ2 y T (sPr T Lw S lots od a) (T 6 a) (T 5 a) → jC0 l mX9_isThere 0 G [.ref y] μ2 (pI φ) := by
      intro μ2 ho2 hk2 h12' h0 hp2 hw2
      refine (c_X9_isThere hG (ho2.gPP hP) (ho2.tO hy0) hw2.1 hdsI).mono (pI_mono ?_)
      rintro x μ3 ⟨rfl, rfl⟩
      exact fin _ ho2 hk2 h12' h0 hp2 hw2
    constructor
    · intro h0
      refine hthere μ1 ho hk1 h1 h0 hp ?_
      rcases hK with h | ⟨pr, hpr, hc, hw⟩
      · exact absurd h h0
      · refine wyC_congr (fun k hk => ?_) hw
        have e1 := hc k hk
        rw [(hp k hk).1] at e1
        have b1 := hpr k hk
        have b2 := hprOK k hk
        simp only [INF] at b1 b2
        exact ((nI_eq (by omega) (by omega)).mp e1).symm
    · intro h0
      have hA1 := hAof μ1 ho hk1
      have hx1 := hA1.1.2.2.2.2.2.1
      refine (c_X9_seek hG (ho.gPP hP) (ho.tO ht) (ho.tO hy0) hx1 hyr hprOK (fun k hk => (hp k hk).1) ha).mono (pV_mono ?_)
      rintro μ2 ⟨ho2, g0, g1, hw⟩
      have ho2' : cOff (fnI t a) (scL t) μ μ2 := ho.trans (ho2.mono (fun c hc => by unfold yI at hc; exact yIn c (by omega) (by omega)) (fun c hc => hc.elim))
      refine ⟨hthere μ2 ho2' ?_ (by rw [g1]; exact h1) (by rw [g0]; decide) (fun k hk => ?_) hw, ho2'.gPP hP, ho2'.tO hy0⟩
      · exact kcI_low ho2 ht2 (fun c hc => by unfold yI at hc; omega) (fun c hc => hc.elim) hk1
      · unfold prE
        rw [ho2.2.1 (y + 1) (by unfold yI; omega), ho2.2.1 (y + 2) (by unfold yI; omega)]; exact hp k hk
  have last : ∀ (x : Int32) (μ1 : jM), gPP μ1 → φ x μ1 → J l mX10_findWay (jZ0 3 G (pI φ)) G 0 0 104 [.null, .null, .null, .null, .null] [.int x] μ1 := by
    intro x μ1 hP1 hx1
    refine b_X10_findWay_104 hG hP1 hx1 ?_
    rw [hφ] at hx1
    rw [hx1.1]
    by_cases z : sDs T Lw lots od S a (T 5 a) < INF
    · rw [if_pos z]; exact Or.inr rfl
    · rw [if_neg z]; exact Or.inl rfl
  have phiP : ∀ (x : Int32) (μ1 : jM), φ x μ1 → gPP μ1 := fun x μ1 h => by rw [hφ] at h; exact h.2.1.gPP hP
  have loop : ∀ j, j ≤ T 0 1 → ∀ (μ1 : jM), cOff (fnI t a) (scL t) μ μ1 → kcI μ1 t T Lw → μ1.1 y 1 = 0 → wyK μ1 y T a → (∀ k, k < T 0 1 → (k < j ∨ bt D k = false) → prE μ1 y T Lw S od lots a k) →
      J l mX10_findWay (jZ0 3 G (pI φ)) G 0 0 20 [.ref 12, .int (nI a), .ref y, .int D, .int (nI j)] [] μ1 := by
    refine up_loop (T 0 1) ?_ (fun j hj ih => ?_)
    · intro μ1 ho hk1 h1 hK hp
      have hnr : μ1.1 t 1 = nI (T 0 1) := (hAof μ1 ho hk1).1.2.2.2.2.2.1.2.1.2.1
      have hle : μ1.1 t 1 ≤ nI (T 0 1) := by rw [hnr]; exact nI_le (Nat.le_refl _) (by omega)
      obtain ⟨e1, e2⟩ := atEnd μ1 ho hk1 h1 hK (fun k hk => hp k hk (Or.inl hk))
      refine b_X10_findWay_20 (ψ2 := fun _ _ => True) (ψ3 := fun _ => True) (ψ5 := fun _ _ => True) (ψ6 := fun _ => True) hG (ho.gPP hP) (ho.tO ht) (ho.tO hy0) (by rw [ho.1]; exact q0) (fun _ h0 => e1 h0) (fun _ _ x μ2 h => last x μ2 (phiP x μ2 h) h) (fun _ h0 => e2 h0) (fun _ _ μ2 h => ?_) (fun h => absurd hle h) (fun h => absurd hle h) (fun h => absurd hle h) (fun h => absurd hle h) (fun h => absurd hle h) (fun h => absurd hle h) (fun h => absurd hle h) (fun h => absurd hle h) (fun h => absurd hle h)
      exact b_X10_findWay_100 hG h.2.1 h.2.2 h.1 (fun x μ3 h3 => last x μ3 (phiP x μ3 h3) h3)
    · intro μ1 ho hk1 h1 hK hp
      have hA1 := hAof μ1 ho hk1
      have hnr : μ1.1 t 1 = nI (T 0 1) := hA1.1.2.2.2.2.2.1.2.1.2.1
      have hgt : ¬ μ1.1 t 1 ≤ nI j := by rw [hnr]; exact nI_ge hj (by omega)
      have hP1 := ho.gPP hP
      have hy1 := ho.tO hy0
      have hD1 := hDof μ1 ho
      have cj : (nI j).toNatClampNeg = j := nI_clamp (by omega)
      have hbrk : ((((μ1.1 12 4) >>> (nI j &&& 31)) &&& 1) = (0)) ↔ ¬ sDn T Lw S j := by
        rw [sh1_0 (by omega)]
        have := hD1 j (by omega)
        cases hb : bt (μ1.1 12 4) j
        · rw [hb] at this
          exact ⟨fun _ z => absurd (this.mpr ⟨hj, z⟩) (by decide), fun _ => rfl⟩
        · rw [hb] at this
          exact ⟨fun z => (by cases z), fun z => absurd (this.mp rfl).2 z⟩
      -- a price is set
      have set : ∀ (μ2 : jM) (p : Nat), cOff (fnI t a) (scL t) μ μ2 → kcI μ2 t T Lw → μ2.1 y 1 = 0 → wyK μ2 y T a → μ2.1 (y + 1) = μ1.1 (y + 1) → (∀ k, k ≠ j → μ2.1 (y + 2) k = μ1.1 (y + 2) k) → (¬ sDn T Lw S j → μ2.1 (y + 2) j = sOw T Lw S lots od a j) → p = sPr T Lw S lots od a j →
          jC0 l mX9_setPrice 0 G [.ref y, .int (nI j), .int (nI p)] μ2 (pV fun μ3 => gPP μ3 ∧ tO gWay pWay G μ3 y ∧ J l mX10_findWay (jZ0 3 G (pI φ)) G 0 0 20 [.ref 12, .int (nI a), .ref y, .int D, .int (nI (j + 1))] [] μ3) := by
        intro μ2 p ho2 hk2 h12' hK2 hr1 hr2 hr2j hpe
        have hpOK := hprOK j hj
        rw [← hpe] at hpOK
        refine (c_X9_setPrice hG (ho2.gPP hP) hv (ho2.tO hy0) ha hj hpOK hK2).mono (pV_mono ?_)
        rintro μ3 ⟨ho3, hrow, hfl, hK3⟩
        have ho3' : cOff (fnI t a) (scL t) μ μ3 := ho2.trans (ho3.mono (fun c hc => yIn c (by omega) (by omega)) (fun c hc => hc.elim))
        refine ⟨ho3'.gPP hP, ho3'.tO hy0, ih μ3 ho3' ?_ ?_ hK3 (fun k hk hkj => ?_)⟩
        · exact kcI_low ho3 ht2 (fun c hc => by omega) (fun c hc => hc.elim) hk2
        · rw [hfl 1 (by decide)]; exact h12'
        · unfold prE
          rw [hrow, ho3.2.1 (y + 2) (by omega)]
          by_cases hkj' : k = j
          · subst hkj'
            rw [upd_at, hpe]
            exact ⟨rfl, hr2j⟩
          · rw [upd_ne hkj', hr1, hr2 k hkj']
            exact hp k hk (hkj.elim (fun h => Or.inl (by omega)) Or.inr)
      refine b_X10_findWay_20 (ψ0 := fun _ _ => True) (ψ1 := fun _ => True) (ψ2 := φ) (ψ3 := fun μ2 => jC0 l mX9_isThere 0 G [.ref y] μ2 (pI φ) ∧ gPP μ2 ∧ tO gWay pWay G μ2 y) (ψ5 := fun x μ2 => x = sCost T Lw S lots od a j ∧ cOff (fun c => c = 17 + 5 * a + 2 ∨ scI t c) (scL t) μ1 μ2 ∧ kcI μ2 t T Lw ∧ μ2.1 (17 + 5 * a + 2) = upd (μ1.1 (17 + 5 * a + 2)) j (sOw T Lw S lots od a j)) (ψ6 := fun μ3 => gPP μ3 ∧ tO gWay pWay G μ3 y ∧ J l mX10_findWay (jZ0 3 G (pI φ)) G 0 0 20 [.ref 12, .int (nI a), .ref y, .int D, .int (nI (j + 1))] [] μ3)
        hG hP1 (ho.tO ht) hy1 (by rw [ho.1]; exact q0) (fun h => absurd h hgt) (fun h => absurd h hgt) (fun h => absurd h hgt) (fun h => absurd h hgt) (fun _ hz h0 => ?_) (fun _ hz h0 x μ2 h => last x μ2 (phiP x μ2 h) h) (fun _ hz h0 => ?_) (fun _ hz h0 μ2 h => ?_) (fun _ hnz hb => ?_) (fun _ hnz hb hbk => ?_) (fun _ hnz hb hbk => ?_) (fun _ hnz hb hbk => ?_) (fun _ hnz hb hbk => ?_)
      · exact (atEnd μ1 ho hk1 h1 hK (fun k hk => hp k hk (by
          by_cases z : k < j
          · exact Or.inl z
          · exact Or.inr (ush_0 (by omega) hz (by omega))))).1 h0
      · exact (atEnd μ1 ho hk1 h1 hK (fun k hk => hp k hk (by
          by_cases z : k < j
          · exact Or.inl z
          · exact Or.inr (ush_0 (by omega) hz (by omega))))).2 h0
      · exact b_X10_findWay_100 hG h.2.1 h.2.2 h.1 (fun x μ3 h3 => last x μ3 (phiP x μ3 h3) h3)
      · rw [nI_inc]
        refine ih μ1 ho hk1 h1 hK (fun k hk hkj => hp k hk ?_)
        by_cases z : k = j
        · rw [z]; exact Or.inr ((ush1_0 (by omega) D).mp hb)
        · rcases hkj with h | h
          · exact Or.inl (by omega)
          · exact Or.inr h
      · exact c_X10_priceOf hG hP1 hA1 ha hj
      · rintro x μ2 ⟨rfl, ho2, hk2, hrow⟩
        rw [← hye] at ho2 hrow
        have nd := hbrk.mp hbk
        have h3 := hv.2.1 j hj
        have hpi := (sPr_in (Lw := Lw) (S := S) (lots := lots) (od := od) (a := a) ⟨h3.2.2.2.1, h3.2.2.2.2.1⟩).2.2.2 nd
        rw [hpi.2]
        have ho2' : cOff (fnI t a) (scL t) μ μ2 := ho.trans (ho2.mono (fun c hc => by
          rcases hc with h | h
          · exact yIn c (by omega) (by omega)
          · exact Or.inr h) (fun c hc => hc))
        have ne : ∀ i, i ≤ 4 → i ≠ 2 → μ2.1 (y + i) = μ1.1 (y + i) := fun i hi h2 => ho2.2.1 _ (by unfold scI; omega)
        have e0 := ne 0 (by decide) (by decide)
        rw [Nat.add_zero] at e0
        refine b_X10_findWay_75 hG (ho2'.gPP hP) (ho2'.tO hy0) (set μ2 _ ho2' hk2 (by rw [e0]; exact h1) (wyK_mem (ne 1 (by decide) (by decide)) (ne 3 (by decide) (by decide)) (by rw [e0]) (by rw [e0]) (by rw [e0]) (by rw [e0]) hK) (ne 1 (by decide) (by decide)) (fun k hk => by rw [hrow, upd_ne hk]) (fun _ => by rw [hrow, upd_at]) rfl) ?_
        rintro μ3 ⟨hP3, hy3, hJ⟩
        refine b_X10_findWay_78 hG hP3 hy3 ?_
        rw [nI_inc]; exact hJ
      · have dn : sDn T Lw S j := Classical.byContradiction (fun z => hbk (hbrk.mpr z))
        have h3 := hv.2.1 j hj
        have hpi := (sPr_in (Lw := Lw) (S := S) (lots := lots) (od := od) (a := a) ⟨h3.2.2.2.1, h3.2.2.2.2.1⟩).2.2.1 dn
        exact set μ1 INF ho hk1 h1 hK rfl (fun _ _ => rfl) (fun z => absurd dn z) hpi.symm
      · rintro μ3 ⟨hP3, hy3, hJ⟩
        refine b_X10_findWay_78 hG hP3 hy3 ?_
        rw [nI_inc]; exact hJ
  refine b_X10_findWay_0 hG hP hy0 ia hwr ?_
  rw [← hDe]
  have ho0 : cOff (fnI t a) (scL t) μ (wI μ y 1 0) := cOff_wI (yIn y (by omega) (by omega))
  refine loop 0 (by omega) (wI μ y 1 0) ho0 ?_ wI_at ?_ (fun k hk hkj => ?_)
  · exact kcI_low (PI := fun c => c = y) (PL := fun _ => False) (cOff_wI rfl) ht2 (fun c hc => by omega) (fun c hc => hc.elim) hkc
  · exact wyK_mem (wI_ne (by omega)) (wI_ne (by omega)) (wI_off' (by decide)) (wI_off' (by decide)) (wI_off' (by decide)) (wI_off' (by decide)) hwa.1
  · rcases hkj with h | h
    · omega
    · unfold prE
      rw [wI_ne (by omega), wI_ne (by omega)]
      exact hwa.2 k hk (by rw [← hDe]; exact h)
end FindC
