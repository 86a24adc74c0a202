/-! THE REFERENCE: read -/
theorem rdL_ok {Y : List Int32} : ∀ (n : Nat) (s s' : pS), pOK' Y s → rdL Y n s = .ok s' → pOK' Y s' := by
  intro n
  induction n with
  | zero => intro s s' _ e; cases e
  | succ n ih =>
    intro s s' h e
    unfold rdL at e
    split at e
    · cases e; exact h
    · obtain ⟨s1, e1, e2⟩ := bd_inv e
      exact ih s1 s' (tll_ok h e1).1 e2
section RdN
variable {l : Launch} {G : jG} {Y : List Int32} {v : Nat}
theorem rd_loop (hG : gMM G) (hY : Y.length ≤ 2000) {φ : Int32 → jM → Prop} {μ0 : jM} : ∀ (n : Nat) (s : pS) (μ : jM), 401 ≤ n + s.1 → gNN μ → okM Y s.1 s.2.1 μ → dM v s.1 s.2.2.1 s.2.2.2.1 s.2.2.2.2 μ → pOK' Y s → rmK v μ0 μ →
    (∀ e μ', rdL Y n s = .error e → mB e μ' → rmK v μ0 μ' → gNN μ' → J l mX12_read (jZ0 7 G (pI φ)) G 0 0 112 [.ref 112, .null] [] μ') → (∀ s' μ', rdL Y n s = .ok s' → okM Y s'.1 s'.2.1 μ' → dM v s'.1 s'.2.2.1 s'.2.2.2.1 s'.2.2.2.2 μ' → rmK v μ0 μ' → gNN μ' → J l mX12_read (jZ0 7 G (pI φ)) G 0 0 124 [.ref 112, .null] [.int 1] μ') → J l mX12_read (jZ0 7 G (pI φ)) G 0 0 112 [.ref 112, .null] [] μ := by
  intro n
  induction n with
  | zero => intro s μ hn _ _ _ hp; have := hp.1.1; omega
  | succ n ih =>
    intro s μ hn hP h hd hp hr Kb Ko
    refine b_X12_read_112 (ψ0 := fun _ => True) (ψ3 := fun _ => True) (ψ6 := fun _ => True) hG hP (fun z => absurd (okM_13 h).1 z) (fun z => absurd (okM_13 h).1 z) (fun z => absurd (okM_13 h).1 z) (fun z => absurd (okM_13 h).1 z) (fun z => absurd (okM_13 h).1 z) (fun z => absurd (okM_13 h).1 z) (fun z => absurd (okM_13 h).1 z) (fun z => absurd (okM_13 h).1 z) (fun z => absurd (okM_13 h).1 z) (fun z => absurd (okM_13 h).1 z) (fun z => absurd (okM_13 h).1 z) (fun z => absurd (okM_13 h).1 z) (fun _ => c_X12_is hG hP h (k := 0) rfl (by decide)) (fun _ v1 μ1 h1 => ?_)
    obtain ⟨rfl, rfl⟩ := h1
    by_cases hk : kd Y s.1 = 0
    · rw [decide_eq_true hk]
      refine Ko s μ1 ?_ h hd hr hP
      unfold rdL; rw [if_pos hk]
    · rw [decide_eq_false hk]
      have hrd : rdL Y (n + 1) s = bd (tll Y s.1 s.2.1 s.2.2.1 s.2.2.2.1 s.2.2.2.2) fun s' => rdL Y n s' := by conv => lhs; unfold rdL; rw [if_neg hk]
      refine b_X12_read_124 (ψ0 := fun _ => True) (ψ3 := fun _ => True) (ψ6 := fun _ => True) hG hP (fun z => absurd rfl z) (fun z => absurd rfl z) (fun z => absurd rfl z) (fun z => absurd rfl z) (fun z => absurd rfl z) (fun z => absurd rfl z) (fun z => absurd rfl z) (fun z => absurd rfl z) (fun z => absurd rfl z) (fun z => absurd rfl z) (fun z => absurd rfl z) (fun z => absurd rfl z) (fun _ => c_X12_tellOne hG hP hY h hd hp) (fun _ μ2 h2 => ?_)
      obtain ⟨h2, k2⟩ := h2
      have P2 := k2.gNN hP
      have r2 := hr.trans k2
      refine b_X12_read_131 hG P2 ?_
      cases e : tll Y s.1 s.2.1 s.2.2.1 s.2.2.2.1 s.2.2.2.2 with
      | error f => exact Kb f μ2 (by rw [hrd, e]; rfl) (pR_er h2 e) r2 P2
      | ok s1 =>
        obtain ⟨q1, q2⟩ := tll_ok hp e
        obtain ⟨a1, a2⟩ := pR_ok h2 e
        exact ih s1 μ2 (by omega) P2 a1 a2 q1 r2 (fun f μ' he => Kb f μ' (by rw [hrd, e]; exact he)) (fun s' μ' he => Ko s' μ' (by rw [hrd, e]; exact he))
theorem byO_nar {Y : List Int32} (hb : byO Y) {b : Int32} (h : b ∈ Y) : vp_nar .byte b = b := by
  obtain ⟨m, hm, rfl⟩ := hb b h
  have : ∀ m, m < 256 → vp_nar .byte (nI (4294967168 + m)) = nI (4294967168 + m) := by decide +kernel
  exact this m hm
theorem c_X12_read (hG : gMM G) {μ : jM} (hP : gNN μ) {a : aS} (ha : mI a μ) (hb : byO (gY a)) (hk : kwM μ) : jC0 l mX12_read 7 G [.ref 112] μ (pI fun z μ' => z = (dRead a).1 ∧ mI (dRead a).2 μ' ∧ gNN μ' ∧ loG μ μ') := by
  refine jC0.of' (ls := [.ref 112, .null]) rfl rfl rfl (fun _ _ => Nat.le_of_ble_eq_true rfl) ?_
  obtain ⟨⟨v, hm⟩, ht, h17, h4, h5, h6⟩ := id ha
  obtain ⟨m1, m2, m3, m4, m5⟩ := id hm
  obtain ⟨hv2, h18⟩ := m1.1
  obtain ⟨Y, hY⟩ : ∃ Y, gY a = Y := ⟨_, rfl⟩
  rw [hY] at ht hb
  have hl := ht.2.1
  refine b_X12_read_0 hG hP ?_
  have o1 : mO3 [] [4] [] μ (wI μ 112 4 (μ.1 112 2)) := mO3_wF (by decide)
  have copy : ∀ i, i ≤ Y.length → ∀ μ1 : jM, mO3 [114] [4] [] μ μ1 → μ1.1 112 4 = nI Y.length → (∀ j b, j < i → Y[j]? = some b → μ1.1 114 j = b) → J l mX12_read (jZ0 7 G (pI fun z μ' => z = (dRead a).1 ∧ mI (dRead a).2 μ' ∧ gNN μ' ∧ loG μ μ')) G 0 0 10 [.ref 112, .int (nI i)] [] μ1 := by
    refine up_loop Y.length ?_ (fun i hi ih => ?_)
    · intro μ1 q1 e4 hc
      have P1 := q1.gNN hP
      have hle : μ1.1 112 4 ≤ nI Y.length := by rw [e4]; exact nI_le (Nat.le_refl _) (by omega)
      have o2 : mO3 [] [2] [] μ1 (wI μ1 112 2 0) := mO3_wF (by decide)
      have P2 := o2.gNN P1
      have tx : txtM (wI μ1 112 2 0) Y := ⟨by rw [o2.f 4]; exact e4, hl, fun j b hj => by rw [o2.c 114]; exact hc j b (List.getElem?_eq_some_iff.mp hj).1 hj⟩
      have kw : kwM (wI μ1 112 2 0) := by unfold kwM at hk ⊢; rw [o2.g 119, q1.g 119]; exact hk
      refine b_X12_read_10 hG P1 (fun _ => c_X12_cut hG P2 tx kw hb) (fun _ μ3 h3 => ?_) (fun z => absurd hle z) (fun z => absurd hle z)
      obtain ⟨lx, o3⟩ := h3
      have P3 := o3.gNN P2
      have r3 : rdK (1 - v) μ μ3 := ((rdK_3 q1 (by decide) (by decide) (by intro c hc; cases hc)).trans (rdK_3 o2 (by intro c hc; cases hc) (by decide) (by intro c hc; cases hc))).trans (rdK_3 o3 (by decide) (by decide) (by decide))
      have e18 : μ3.1 112 18 = nI v := by rw [r3.2.2.1 18 (by decide)]; exact h18
      have es : 1 - μ3.1 112 18 = nI (1 - v) := by
        rw [e18]
        have : v = 0 ∨ v = 1 := by omega
        rcases this with rfl | rfl <;> decide
      have e2 : μ3.1 112 2 = 0 := by rw [o3.f 2, wI_at]
      obtain ⟨μ4, e4'⟩ : ∃ μ4, (wI (wI (wI (wI (wI (wI μ3 112 11 0) 112 12 0) 112 13 0) 112 15 0) 112 19 (nI (1 - v))) 112 20 0) = μ4 := ⟨_, rfl⟩
      have o4 : mO3 [] [11, 12, 13, 15, 19, 20] [] μ3 μ4 := by
        rw [← e4']
        exact (((((mO3_wF (by decide)).trans (mO3_wF (by decide))).trans (mO3_wF (by decide))).trans (mO3_wF (by decide))).trans (mO3_wF (by decide))).trans (mO3_wF (by decide))
      have P4 := o4.gNN P3
      have w11 : μ4.1 112 11 = 0 := by rw [← e4']; simp [wI, upd]
      have w12 : μ4.1 112 12 = 0 := by rw [← e4']; simp [wI, upd]
      have w13 : μ4.1 112 13 = 0 := by rw [← e4']; simp [wI, upd]
      have w15 : μ4.1 112 15 = 0 := by rw [← e4']; simp [wI, upd]
      have w19 : μ4.1 112 19 = nI (1 - v) := by rw [← e4']; simp [wI, upd]
      have w20 : μ4.1 112 20 = 0 := by rw [← e4']; simp [wI, upd]
      refine b_X12_read_45 hG P3 (by rw [es, e4']; exact c_X12_plain (v := 1 - v) hG P4 (by omega) rfl) (fun μ5 h5' => ?_)
      obtain ⟨d5, l5, k5, f5, o5⟩ := h5'
      have P5 := k5.gNN P4
      refine b_X12_read_88 hG P5 ?_
      have e19 : μ5.1 112 19 = nI (1 - v) := by rw [f5]; exact w19
      rw [e19, show (130 : Int32) * nI (1 - v) = nI (130 * (1 - v)) from by rw [show (130 : Int32) = nI 130 from rfl, pk_mul], show (420 : Int32) * nI (1 - v) = nI (420 * (1 - v)) from by rw [show (420 : Int32) = nI 420 from rfl, pk_mul]]
      obtain ⟨μ6, e6⟩ : ∃ μ6, wI (wI μ5 112 42 (nI (130 * (1 - v)))) 112 48 (nI (420 * (1 - v))) = μ6 := ⟨_, rfl⟩
      have o6 : mO3 [] [42, 48] [] μ5 μ6 := by rw [← e6]; exact (mO3_wF (by decide)).trans (mO3_wF (by decide))
      have P6 := o6.gNN P5
      have w42 : μ6.1 112 42 = nI (130 * (1 - v)) := by rw [← e6, wI_off' (by decide), wI_at]
      have w48 : μ6.1 112 48 = nI (420 * (1 - v)) := by rw [← e6, wI_at]
      have g6 : ∀ f, f ≠ 42 → f ≠ 48 → μ6.1 112 f = μ4.1 112 f := fun f h1 h2 => by rw [o6.f f (by simp; omega), f5]
      rw [e6]
      have r6 : rdK (1 - v) μ μ6 := ((r3.trans (rdK_3 o4 (by intro c hc; cases hc) (by decide) (by intro c hc; cases hc))).trans (rdK_rm k5)).trans (rdK_3 o6 (by intro c hc; cases hc) (by decide) (by intro c hc; cases hc))
      have lx6 : lexM μ6 Y := lexM_off (lexM_off (lexM_off lx o4) o5) o6
      have k6 : okM Y 0 (0, 0) μ6 := ⟨lx6, ⟨by decide, fun j hj => by omega⟩, ⟨by decide, fun z => absurd rfl z⟩, by rw [g6 11 (by decide) (by decide), w11]; rfl, by rw [g6 13 (by decide) (by decide), w13], by rw [g6 15 (by decide) (by decide), w15]; rfl, fun z => absurd rfl z⟩
      have d6 : dM (1 - v) 0 T0 dLaw [] μ6 := by
        refine ⟨⟨by omega, by rw [g6 19 (by decide) (by decide), w19], by rw [g6 12 (by decide) (by decide), w12]⟩, ?_, fun k hk => absurd hk (by simp [T0]), fun k hk => absurd hk (by simp [T0]), ⟨⟨by decide, trivial, fun x hx => (List.not_mem_nil hx).elim⟩, by rw [g6 20 (by decide) (by decide), w20]; rfl, fun j x hj => by simp at hj⟩, 130 * (1 - v), 420 * (1 - v), w42, Nat.le_refl _, by omega, w48, Nat.le_refl _, by omega, fun q hq => ?_⟩
        · unfold dI at d5 ⊢
          rw [o6.c 122, o6.c 123, o6.c 129, o6.c 128, o6.c 135, o6.c 136, o6.c 137, o6.c 138]; exact d5
        · refine Or.inl ⟨?_, ?_, rfl⟩
          · rw [o6.c 139]; exact (l5 q hq).1
          · rw [o6.c 140]; exact (l5 q hq).2
      have e26 : μ6.1 112 2 = 0 := by rw [g6 2 (by decide) (by decide), o4.f 2]; exact e2
      have hrs : ∀ x, rdL Y 401 (0, (0, 0), T0, dLaw, []) = x → rdS (gY a) = x := fun x hx => by rw [hY]; exact hx
      refine rd_loop (v := 1 - v) (μ0 := μ6) hG hl 401 (0, (0, 0), T0, dLaw, []) μ6 (by decide) P6 k6 d6 pOK_0 rmK.refl (fun e μ7 he m7 k7 P7 => ?_) (fun s μ7 he k7' d7 k7 P7 => ?_)
      · have hd : dRead a = (nI e.1, (([], nI e.2), a.2)) := by unfold dRead; rw [hrs _ he]
        rw [hd]
        have o8 : mO3 [] [17] [] μ7 (wI μ7 112 17 (μ7.1 112 14)) := mO3_wF (by decide)
        have r8 : rdK (1 - v) μ (wI μ7 112 17 (μ7.1 112 14)) := (r6.trans (rdK_rm k7)).trans (rdK_3 o8 (by intro c hc; cases hc) (by decide) (by intro c hc; cases hc))
        have e2' : (wI μ7 112 17 (μ7.1 112 14)).1 112 2 = 0 := by rw [o8.f 2, k7.2.2.1 2 (by decide)]; exact e26
        have n1 := (mB_13 m7).1
        have n2 := (mB_13 m7).2.1
        refine b_X12_read_112 (ψ0 := fun _ => True) (ψ3 := fun _ => True) (ψ6 := fun _ => True) (ψ9 := fun _ _ => True) hG P7 (fun _ z => absurd z n2) (fun _ z => absurd z n2) (fun _ z => absurd z n2) (fun _ z => absurd z n2) (fun _ z => absurd z n2) (fun _ z => absurd z n2) (fun _ z => absurd z n2) (fun _ z => absurd z n2) (fun _ _ z => absurd z n2) (fun _ _ z => absurd z n2) (fun _ _ z => absurd z n2) (fun _ _ _ => ⟨m7.2.1, mI_bad ha hm r8 e2' (by rw [wI_at]; exact m7.2.2.1), r8.gNN hP, r8.G⟩) (fun z => absurd z n1) (fun z => absurd z n1)
      · have pk := rdL_ok 401 _ s pOK_0 he
        obtain ⟨ht400, hw5, -, -, -, hvt⟩ := pk
        have f13 := (okM_13 k7').2.1
        have t1 : ¬ ((1 : Int32) = 0) := by decide
        have hs := k7'.2.2.2.2.2
        by_cases hw : s.2.1.1 = 0
        · have hd : dRead a = (0, (([], -1), (s.2.2.1, s.2.2.2.1), (sBg s.2.2.1, []), ((fun _ => false), gSl a), [])) := by unfold dRead; rw [hrs _ he]; show (if _ then _ else _) = _; rw [if_pos hw]
          rw [hd]
          have f15 : μ7.1 112 15 ≤ 0 := by rw [hs.1, hw]; decide
          have e19' : μ7.1 112 19 = nI (1 - v) := d7.1.2.1
          have o8 : mO3 [] [17, 18] [] μ7 (wI (wI μ7 112 17 (-1)) 112 18 (μ7.1 112 19)) := (mO3_wF (by decide)).trans (mO3_wF (by decide))
          have P8 := o8.gNN P7
          have r7 : rdK (1 - v) μ μ7 := r6.trans (rdK_rm k7)
          have tx8 : txM (wI (wI μ7 112 17 (-1)) 112 18 (μ7.1 112 19)) (1 - v) s.2.2.1 s.2.2.2.1 := dM_tx d7 (hvt hw) ht400.1 o8 (by rw [wI_at]; exact e19')
          have z8 : ∀ i, 68 ≤ i → (wI (wI μ7 112 17 (-1)) 112 18 (μ7.1 112 19)).1 152 i = 0 := fun i hi => by rw [o8.c 152, r7.row 152 (by omega) (by decide)]; exact m3 i hi
          refine b_X12_read_124 (ψ3 := fun _ => True) (ψ6 := fun _ => True) (ψ9 := fun _ => True) hG P7 (fun _ _ _ _ _ => c_X12_begins hG P8 tx8 z8) (fun _ _ _ _ _ μ9 h9 => ?_) (fun _ _ _ _ z => absurd f15 z) (fun _ _ _ z => absurd f13 z) (fun _ _ z => absurd f15 z) (fun _ _ z => absurd f15 z) (fun _ _ z => absurd f15 z) (fun _ _ z => absurd f15 z) (fun _ z => absurd f13 z) (fun _ z => absurd f13 z) (fun _ z => absurd f13 z) (fun _ z => absurd f13 z) (fun z => absurd z t1) (fun z => absurd z t1)
          obtain ⟨o9, q9⟩ := h9
          have P9 := o9.gNN P8
          have hi9 : ∀ i, 68 ≤ i → sBg s.2.2.1 i = 0 := bg_hi
          refine b_X12_read_203 hG P9 (c_X12_keepsRow hG P9 (fun i hi => ?_)) (fun μA hA => ?_)
          · rw [q9.1, hi9 i hi, o9.c 151, o8.c 151, r7.row 151 (by omega) (by decide), m2]; exact m4 i hi
          obtain ⟨oA, qA⟩ := hA
          have PA := oA.gNN P9
          refine b_X12_read_207 hG PA ?_
          have oB : mOff [165] [66, 71] μA (wI (wI μA 112 66 0) 112 71 0) := (mOff_wF (by decide)).trans (mOff_wF (by decide))
          have wB6 : (wI (wI μA 112 66 0) 112 71 0).1 112 66 = 0 := by rw [wI_off' (by decide), wI_at]
          have wB7 : (wI (wI μA 112 66 0) 112 71 0).1 112 71 = 0 := wI_at
          have last : ∀ j, j ≤ 3 → ∀ μC : jM, mOff [165] [66, 71] μA μC → μC.1 112 66 = 0 → μC.1 112 71 = 0 → (∀ k, k < j → μC.1 165 k = 0) → J l mX12_read (jZ0 7 G (pI fun z μ' => z = 0 ∧ mI (([], -1), (s.2.2.1, s.2.2.2.1), (sBg s.2.2.1, []), ((fun _ => false), gSl a), []) μ' ∧ gNN μ' ∧ loG μ μ')) G 0 0 219 [.ref 112, .int (nI j)] [] μC := by
            refine up_loop 3 ?_ (fun j hj ih => ?_)
            · intro μC oC c66 c71 hC
              refine b_X12_read_219 hG (oC.gNN PA) (fun _ => ⟨rfl, ?_, oC.gNN PA, ?_⟩) (fun z => absurd (by decide) z) (fun z => absurd (by decide) z)
              · refine ⟨⟨1 - v, txM_off oC ⟨by decide, by decide⟩ (txM_off oA ⟨by decide, by decide⟩ (txM_off o9 ⟨by decide, by decide⟩ tx8)), ?_, ?_, hi9, bg_rt (T := s.2.2.1)⟩, ⟨?_, Nat.zero_le _, fun i b hb' => absurd hb' (by show ¬ ([] : List Int32)[i]? = some b; simp)⟩, ?_, ⟨?_, Nat.zero_le _, fun j R hR => absurd hR (by show ¬ ([] : List sR)[j]? = some R; simp)⟩, fun k hk' => ⟨?_, fun z => by cases z⟩, ⟨?_, Nat.zero_le _, fun i d hd' => absurd hd' (by show ¬ ([] : List (Nat × Nat × Nat))[i]? = some d; simp)⟩⟩
                · rw [oC.c 151, qA, q9.1]
                · intro i hi
                  rw [oC.c 152, oA.c 152, q9.1]; exact hi9 i hi
                · rw [oC.f 2, oA.f 2, o9.f 2, o8.f 2, k7.2.2.1 2 (by decide)]; exact e26
                · rw [oC.f 17, oA.f 17, o9.f 17, wI_off' (by decide), wI_at]
                · rw [c66]; rfl
                · rw [hC k hk']; rfl
                · rw [c71]; rfl
              · have r8 : loG μ7 μC := by
                  refine ⟨by rw [oC.1, oA.1, o9.1]; rfl, by rw [oC.1, oA.1, o9.1]; rfl, fun c hc => ⟨?_, by rw [oC.1, oA.1, o9.1]; rfl⟩⟩
                  rw [oC.2.1 c (by omega) (by simp; omega), oA.2.1 c (by omega) (by simp; omega), o9.2.1 c (by omega) (by simp; omega), wI_ne (by omega), wI_ne (by omega)]
                exact r7.G.trans r8
            · intro μC oC c66 c71 hC
              have hlt : ¬ (3 : Int32) ≤ nI j := nI_ge (b := 3) hj (by decide)
              refine b_X12_read_219 hG (oC.gNN PA) (fun z => absurd z hlt) (fun _ => vp_in_nI hj (by decide)) (fun _ => ?_)
              rw [nI_clamp (by omega), nI_inc]
              refine ih _ (oC.trans (mOff_wC (by decide) (by decide))) (by rw [wI_ne (by decide)]; exact c66) (by rw [wI_ne (by decide)]; exact c71) (fun k hk' => ?_)
              by_cases ek : k = j
              · subst ek; rw [wI_at]; decide
              · rw [wI_off' ek]; exact hC k (by omega)
          exact last 0 (by decide) _ oB wB6 wB7 (fun k hk' => by omega)
        · have hd : dRead a = (nI s.2.1.1, (([], nI s.2.1.2), a.2)) := by unfold dRead; rw [hrs _ he]; show (if _ then _ else _) = _; rw [if_neg hw]
          rw [hd]
          have f15 : ¬ μ7.1 112 15 ≤ 0 := by rw [hs.1]; exact nI_nle (by omega) (by have := hw5.1; omega)
          have o8 : mO3 [] [17] [] μ7 (wI μ7 112 17 (μ7.1 112 16)) := mO3_wF (by decide)
          have r8 : rdK (1 - v) μ (wI μ7 112 17 (μ7.1 112 16)) := (r6.trans (rdK_rm k7)).trans (rdK_3 o8 (by intro c hc; cases hc) (by decide) (by intro c hc; cases hc))
          have e2' : (wI μ7 112 17 (μ7.1 112 16)).1 112 2 = 0 := by rw [o8.f 2, k7.2.2.1 2 (by decide)]; exact e26
          exact b_X12_read_124 (ψ0 := fun _ => True) (ψ3 := fun _ => True) (ψ6 := fun _ => True) (ψ9 := fun _ => True) hG P7 (fun _ _ z => absurd z f15) (fun _ _ z => absurd z f15) (fun _ _ z => absurd z f15) (fun _ _ z => absurd z f15) (fun _ _ _ _ z => absurd z f15) (fun _ _ _ _ z => absurd z f15) (fun _ _ _ _ _ => ⟨hs.1, mI_bad ha hm r8 e2' (by rw [wI_at]; exact hs.2 hw), r8.gNN hP, r8.G⟩) (fun _ _ _ z => absurd f13 z) (fun _ z => absurd f13 z) (fun _ z => absurd f13 z) (fun _ z => absurd f13 z) (fun _ z => absurd f13 z) (fun z => absurd z t1) (fun z => absurd z t1)
    · intro μ1 q1 e4 hc
      have P1 := q1.gNN hP
      have hle : ¬ μ1.1 112 4 ≤ nI i := by rw [e4]; exact nI_ge hi (by omega)
      have hx : Y[i]? = some Y[i] := List.getElem?_eq_getElem hi
      have e3 : μ1.1 113 (nI i).toNatClampNeg = Y[i] := by rw [nI_clamp (by omega), q1.c 113]; exact ht.2.2 i _ hx
      refine b_X12_read_10 (ψ0 := fun _ => True) hG P1 (fun z => absurd z hle) (fun z => absurd z hle) (fun _ => vp_in_nI (by omega) (by decide)) (fun _ => ?_)
      rw [e3, byO_nar hb (List.getElem_mem hi), nI_clamp (by omega), nI_inc]
      refine ih _ (q1.trans (mO3_wC (by decide) (by decide))) (by rw [wI_ne (by decide)]; exact e4) (fun j b hj hb' => ?_)
      by_cases ej : j = i
      · subst ej
        rw [wI_at]; rw [hx] at hb'; exact Option.some.inj hb'
      · rw [wI_off' ej]; exact hc j b (by omega) hb'
  exact copy 0 (Nat.zero_le _) _ (o1.mono (by decide) (by decide) (by decide)) (by rw [wI_at]; exact ht.1) (fun j b hj => by omega)
end RdN
