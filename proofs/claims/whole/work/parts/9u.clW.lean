/-! THE CLASS reads a LAW -/
def allS (L : sLaw) : Prop := ∀ br ∈ L, br.1.isSome = true
theorem cL_app {vs : Nat → Bool} : ∀ (L R : sLaw) (o : Nat), allS L → cL vs (L ++ R) o = cL vs L o ++ cL vs R (o + (cL vs L o).length) := by
  intro L
  induction L with
  | nil => intro R o _; rfl
  | cons br L ih =>
    intro R o h
    obtain ⟨t, x⟩ := br
    have h1 := h (t, x) List.mem_cons_self
    cases t with
    | none => cases h1
    | some uv =>
      obtain ⟨p, q⟩ := uv
      have e1 : cL vs ((some (p, q), x) :: L) o = (cE vs p ++ cE vs q) ++ ((6, o + p.length + q.length + x.length + 2) :: (cE vs x ++ ((7, 0) :: cL vs L (o + p.length + q.length + x.length + 2)))) := rfl
      have e2 : cL vs ((some (p, q), x) :: L ++ R) o = (cE vs p ++ cE vs q) ++ ((6, o + p.length + q.length + x.length + 2) :: (cE vs x ++ ((7, 0) :: cL vs (L ++ R) (o + p.length + q.length + x.length + 2)))) := rfl
      have e3 : o + (cL vs ((some (p, q), x) :: L) o).length = o + p.length + q.length + x.length + 2 + (cL vs L (o + p.length + q.length + x.length + 2)).length := by
        rw [e1]
        simp only [List.length_append, List.length_cons, cE_len]
        omega
      rw [e3, e2, ih R _ (fun b hb => h b (List.mem_cons_of_mem _ hb)), e1]
      simp only [List.append_assoc, List.cons_append]
theorem uL_app {L : sLaw} {br : Option (sE × sE) × sE} {i : Nat} : uL (L ++ [br]) i = (uL L i || (uE br.2 i || match br.1 with
    | none => false
    | some uv => uE uv.1 i || uE uv.2 i)) := by
  unfold uL
  rw [List.any_append]
  obtain ⟨t, x⟩ := br
  cases t <;> simp
theorem k_139 : ∀ k, k < 43 → (kC k = 139 ↔ k = 31) := by decide +kernel
/-- what a LAW at w, and its keys, are written into -/
def lG (w : Nat) (F : List Nat) (μ μ' : jM) : Prop := μ'.2.2 = μ.2.2 ∧ (∀ c, c ≠ 3 → (c = 11 → 5 ∉ F) → c ≠ w → c ≠ w + 3 → μ'.1 c = μ.1 c) ∧ (∀ f, f ≠ 5 → μ'.1 w f = μ.1 w f) ∧ (∀ f, f ∉ F → μ'.1 3 f = μ.1 3 f) ∧ ∀ c, c ≠ w → c ≠ w + 1 → μ'.2.1 c = μ.2.1 c
theorem lF.G {w : Nat} {F : List Nat} {μ μ' : jM} (h : lF w F μ μ') : lG w F μ μ' := ⟨h.1, h.2.1, h.2.2.1, h.2.2.2.1, fun c a _ => h.2.2.2.2.1 c a⟩
theorem lG.trans {w : Nat} {F : List Nat} {μ μ1 μ2 : jM} (h1 : lG w F μ μ1) (h2 : lG w F μ1 μ2) : lG w F μ μ2 := ⟨h2.1.trans h1.1, fun c a b d e => (h2.2.1 c a b d e).trans (h1.2.1 c a b d e), fun f a => (h2.2.2.1 f a).trans (h1.2.2.1 f a), fun f a => (h2.2.2.2.1 f a).trans (h1.2.2.2.1 f a), fun c a b => (h2.2.2.2.2 c a b).trans (h1.2.2.2.2 c a b)⟩
section ClW
variable {l : Launch} {G : jG} {Y : List Int32} {s : Nat × Nat} {w : Nat} {vs : Nat → Bool} {φ : jM → Prop}
theorem c_JA_fill (hG : gGG G) {μ : jM} (hP : gPP μ) {c N : Nat} (hc : G[c]? = some (3, N)) (hN : N < 2 ^ 30) (x : Int64) : jC0 l mJA_fill_JJ 0 G [.ref c, .long x] μ (pV fun μ' => μ'.1 = μ.1 ∧ μ'.2.2 = μ.2.2 ∧ (∀ d, d ≠ c → μ'.2.1 d = μ.2.1 d) ∧ ∀ i, i < N → μ'.2.1 c i = x) := by
  refine jC0.of' (ls := [.ref c, .long x, .null, .null, .null]) rfl rfl rfl (fun _ _ => Nat.le_of_ble_eq_true rfl) ?_
  refine b_JA_fill_JJ_0 hG hP hc ?_
  have loop : ∀ i, i ≤ N → ∀ μ1 : jM, μ1.1 = μ.1 → μ1.2.2 = μ.2.2 → (∀ d, d ≠ c → μ1.2.1 d = μ.2.1 d) → (∀ j, j < i → μ1.2.1 c j = x) → J l mJA_fill_JJ (jZ0 0 G (pV fun μ' => μ'.1 = μ.1 ∧ μ'.2.2 = μ.2.2 ∧ (∀ d, d ≠ c → μ'.2.1 d = μ.2.1 d) ∧ ∀ i, i < N → μ'.2.1 c i = x)) G 0 0 6 [.ref c, .long x, .null, .int (nI i), .int (Int32.ofNat N)] [] μ1 := by
    refine up_loop N ?_ (fun i hi ih => ?_)
    · intro μ1 e1 e2 e3 e4
      have hle : Int32.ofNat N ≤ nI N := nI_le (Nat.le_refl _) (by omega)
      exact b_JA_fill_JJ_6 hG (gPP_of e2 hP) hc (fun _ => ⟨e1, e2, e3, e4⟩) (fun z => absurd hle z) (fun z => absurd hle z)
    · intro μ1 e1 e2 e3 e4
      have hlt : ¬ Int32.ofNat N ≤ nI i := nI_ge hi (by omega)
      refine b_JA_fill_JJ_6 hG (gPP_of e2 hP) hc (fun z => absurd z hlt) (fun _ => vp_in_nI hi (by omega)) (fun _ => ?_)
      rw [nI_inc, nI_clamp (by omega)]
      refine ih _ e1 e2 (fun d hd => by rw [wL_ne hd]; exact e3 d hd) (fun j hj => ?_)
      rw [wL_eq]
      by_cases e : j = i
      · subst e; rw [updL_at]
      · rw [updL_ne e]; exact e4 j (by omega)
  exact loop 0 (Nat.zero_le _) μ rfl rfl (fun _ _ => rfl) (fun j hj => by omega)
theorem c_X2_clear (hG : gGG G) {μ : jM} (hP : gPP μ) (h79 : 79 ≤ w) (hw : tO gLaw pLaw G μ w) (hv : vsK μ w vs) : jC0 l mX2_clear 1 G [.ref w] μ (pV fun μ' => lwS μ' w vs [] (fun _ => false) ∧ (∀ i, i < 84 → μ'.2.1 (w + 1) i = -1) ∧ lG w [] μ μ') := by
  refine jC0.of' (ls := [.ref w]) rfl rfl rfl (fun _ _ => Nat.le_of_ble_eq_true rfl) ?_
  have P1 : gPP (wL (wI μ w 5 0) w 0 0) := gPP_of (μ := μ) rfl hP
  refine b_X2_clear_0 hG hP hw (c_JA_fill hG P1 (hw.1 1 (3, 84) rfl) (by decide) (-1)) (fun μ2 h2 => ?_)
  obtain ⟨e1, e2, e3, e4⟩ := h2
  refine b_X2_clear_20 hG (gPP_of e2 P1) ⟨⟨?_, fun j q hj => by simp at hj, ?_, ?_⟩, e4, by rw [e2]; rfl, fun c _ _ c3 c4 => ?_, fun f hf => ?_, fun f _ => ?_, fun c c1 c2 => ?_⟩
  · rw [e1]; show (wI μ w 5 0).1 w 5 = _; rw [wI_at]; rfl
  · rw [e3 w (by omega), wL_eq, updL_at]; unfold mkV mkB; simp
  · intro i hi; rw [e1]; show ((wI μ w 5 0).1 w 3 >>> _) &&& 1 = 0 ↔ _; rw [wI_off' (by decide)]; exact hv i hi
  · rw [e1]; show (wI μ w 5 0).1 c = _; rw [wI_ne c3]
  · rw [e1]; show (wI μ w 5 0).1 w f = _; rw [wI_off' hf]
  · rw [e1]; show (wI μ w 5 0).1 3 f = _; rw [wI_ne (by omega)]
  · rw [e3 c c2, wL_ne c1]; rfl
/-- the end of a LAW -/
theorem lw_end (hG : gGG G) {α : Type} {μ : jM} (hP : gPP μ) (h79 : 79 ≤ w) (hw : tO gLaw pLaw G μ w) {x : Except pF α} {tk : α → Nat} {Kw : α → List (Nat × Nat)} {us : α → Nat → Bool} (h : lC Y s w vs 1 x tk Kw us μ) (K : ∀ μ', lC Y s w vs 0 (px x fun a => exS Y (tk a)) (fun p => p.2.1) (fun p => Kw p.1 ++ cE vs p.2.2 ++ [(7, 0)]) (fun p => uA (us p.1) p.2.2) μ' ∧ lF w fEc μ μ' → φ μ') : ∀ μ1, (lC Y s w vs 1 (px x fun a => exS Y (tk a)) (fun p => p.2.1) (fun p => Kw p.1 ++ cE vs p.2.2) (fun p => uA (us p.1) p.2.2) μ1 ∧ lF w fEc μ μ1) → J l mX4_readLaw (jZ0 4 G (pV φ)) G 0 0 121 [.null, .ref w, .null, .null] [] μ1 := by
  rintro μ1 ⟨h1, o1⟩
  have P1 := o1.gPP hP
  refine b_X4_readLaw_121 hG P1 (o1.tO hw) (v_add (k := 7) hG P1 h79 (o1.tO hw) h1 (by decide) rfl) (fun v μ2 h2 => ?_)
  obtain ⟨-, h2, o2⟩ := h2
  exact b_X4_readLaw_128 hG (o2.gPP P1) (K μ2 ⟨h2, o1.trans o2⟩)
theorem lw_bad (hG : gGG G) {μ : jM} (hP : gPP μ) (h79 : 79 ≤ w) (hw : tO gLaw pLaw G μ w) {e : pF} (h : smB w e μ) (x : Int32) (K : ∀ μ', smB w e μ' ∧ lF w fEc μ μ' → φ μ') : J l mX4_readLaw (jZ0 4 G (pV φ)) G 0 0 17 [.ref 3, .ref w, .int x, .null] [] μ := by
  have h0 : lC ([] : List Int32) (0, 0) w (fun _ => false) 1 (.error e : Except pF Nat) id (fun _ => []) (fun _ _ => false) μ := h
  have fin : J l mX4_readLaw (jZ0 4 G (pV φ)) G 0 0 105 [.ref 3, .ref w, .null, .null] [.int (-1)] μ := by
    refine b_X4_readLaw_105 (ψ1 := fun _ => True) hG hP hw (fun _ => v_readSum hG hP h79 hw (Nat.le_refl _) h0) (fun _ => lw_end hG hP h79 hw h0 (fun μ' h' => K μ' h')) (fun z => absurd z (by decide)) (fun z => absurd z (by decide))
  refine b_X4_readLaw_17 hG hP hw (fun _ => d_X4_kindHere hG hP h.1) (fun _ v μ1 hv => ?_) (fun _ => d_X4_kindHere hG hP h.1) (fun _ v μ1 hv => ?_)
  · obtain ⟨rfl, rfl⟩ := hv; exact fin
  · obtain ⟨rfl, rfl⟩ := hv
    refine b_X4_readLaw_26 (ψ1 := fun _ => True) hG hP hw (fun _ => d_X4_kindHere hG hP h.1) (fun _ v μ2 hv => ?_) (fun z => absurd z (by decide)) (fun z => absurd z (by decide))
    obtain ⟨rfl, rfl⟩ := hv; exact fin
/-- a LAW as it is read -/
def lwP (Y : List Int32) (s : Nat × Nat) (w : Nat) (vs : Nat → Bool) (r : Nat × sLaw) (μ : jM) : Prop := okC Y r.1 s μ ∧ lwS μ w vs (cL vs r.2 0) (uL r.2)
theorem lw_fin (hG : gGG G) {μ : jM} (hP : gPP μ) (h79 : 79 ≤ w) (hw : tO gLaw pLaw G μ w) {t : Nat} {L : sLaw} (hS : allS L) (h : okC Y t s μ) (hl : lwS μ w vs (cL vs L 0) (uL L)) (hlen : (cL vs L 0).length + 1 ≤ t) (hk : kd Y t ≠ 31) (K : ∀ μ', pR (bd (exS Y t) fun e => .ok (e.1, L ++ [(none, e.2)])) (lwP Y s w vs) (smB w) μ' ∧ lF w fEc μ μ' → φ μ') : J l mX4_readLaw (jZ0 4 G (pV φ)) G 0 0 105 [.ref 3, .ref w, .null, .null] [.int (kC (kd Y t))] μ := by
  have hz : ¬ kC (kd Y t) = 139 := fun z => hk ((k_139 _ kd_in).mp z)
  have h0 : lC Y s w vs 1 (.ok t : Except pF Nat) id (fun _ => cL vs L 0) (fun _ => uL L) μ := ⟨h, hl, hlen⟩
  refine b_X4_readLaw_105 (ψ1 := fun _ => True) hG hP hw (fun _ => v_readSum hG hP h79 hw (Nat.le_refl _) h0) (fun _ => lw_end hG hP h79 hw h0 (fun μ' h' => K μ' ⟨?_, h'.2⟩)) (fun z => absurd z hz) (fun z => absurd z hz)
  have q := h'.1
  rw [px_ok] at q
  cases e : exS Y t with
  | error f =>
    rw [show exS Y (id t) = exS Y t from rfl, e] at q; exact q
  | ok r =>
    rw [show exS Y (id t) = exS Y t from rfl, e] at q
    obtain ⟨q1, q2, -⟩ := (show okC Y r.1 s μ' ∧ lwS μ' w vs (cL vs L 0 ++ cE vs r.2 ++ [(7, 0)]) (uA (uL L) r.2) ∧ _ from q)
    refine ⟨q1, ?_⟩
    show lwS μ' w vs (cL vs (L ++ [(none, r.2)]) 0) (uL (L ++ [(none, r.2)]))
    have e1 : cL vs (L ++ [(none, r.2)]) 0 = cL vs L 0 ++ cE vs r.2 ++ [(7, 0)] := by
      rw [cL_app L _ 0 hS, List.append_assoc]; rfl
    have e2 : uL (L ++ [(none, r.2)]) = uA (uL L) r.2 := by
      funext i; rw [uL_app]; unfold uA; simp
    rw [e1, e2]; exact q2
theorem lw_loop (hG : gGG G) (h79 : 79 ≤ w) : ∀ (n t : Nat) (L : sLaw) (μ : jM), n ≤ 4 → gPP μ → tO gLaw pLaw G μ w → allS L → okC Y t s μ → lwS μ w vs (cL vs L 0) (uL L) → (cL vs L 0).length + 1 ≤ t → (∀ μ', pR (lwL Y (n + 1) t L) (lwP Y s w vs) (smB w) μ' ∧ lF w fEc μ μ' → φ μ') → J l mX4_readLaw (jZ0 4 G (pV φ)) G 0 0 17 [.ref 3, .ref w, .int (nI (4 - n)), .null] [] μ := by
  intro n
  induction n with
  | zero =>
    intro t L μ _ hP hw hS h hl hlen K
    have hk43 := kd_in (Y := Y) (i := t)
    have ht := h.2.1.1
    refine b_X4_readLaw_17 (ψ1 := fun _ _ => True) hG hP hw (fun _ => c_X4_kindHere hG hP h) (fun _ v μ1 hv => ?_) (fun z => absurd (by decide) z) (fun z => absurd (by decide) z)
    obtain ⟨rfl, rfl⟩ := hv
    unfold lwL at K
    by_cases hk : kd Y t = 31
    · rw [if_pos hk, if_pos rfl] at K
      have hz : kC (kd Y t) = 139 := (k_139 _ hk43).mpr hk
      refine b_X4_readLaw_105 (ψ0 := fun _ => True) hG hP hw (fun z => absurd hz z) (fun z => absurd hz z) (fun _ => c_X4_failHere hG hP h (k := 2) rfl (Or.inr rfl)) (fun _ μ2 h2 => ?_)
      obtain ⟨m2, o2⟩ := h2
      have P2 := o2.gPP hP
      have h0 : lC Y (0, 0) w (fun _ => false) 1 (.error (2, pl Y t) : Except pF Nat) id (fun _ => []) (fun _ _ => false) μ2 := ⟨m2, lwB_3 (lwS_B hl (by omega)) (o2.mono (by decide) (fun _ z => z) (fun _ z => z)) h79⟩
      exact b_X4_readLaw_116 hG P2 (o2.tO hw) (v_readSum (Y := Y) hG P2 h79 (o2.tO hw) (Nat.le_refl _) h0) (lw_end hG P2 h79 (o2.tO hw) h0 (fun μ' h' => K μ' ⟨h'.1, (lF_30 o2 h79 (by decide)).trans h'.2⟩))
    · rw [if_neg hk] at K
      exact lw_fin hG hP h79 hw hS h hl hlen hk K
  | succ n ih =>
    intro t L μ hn hP hw hS h hl hlen K
    have hk43 := kd_in (Y := Y) (i := t)
    have ht := h.2.1.1
    have h4 : ¬ (4 : Int32) ≤ nI (4 - (n + 1)) := nI_ge (b := 4) (by omega) (by decide)
    refine b_X4_readLaw_17 (ψ0 := fun _ _ => True) hG hP hw (fun z => absurd z h4) (fun z => absurd z h4) (fun _ => c_X4_kindHere hG hP h) (fun _ v μ1 hv => ?_)
    obtain ⟨rfl, rfl⟩ := hv
    by_cases hk : kd Y t = 31
    · have hz : kC (kd Y t) = 139 := (k_139 _ hk43).mpr hk
      have h0 : lC Y s w vs 1 (.ok t : Except pF Nat) id (fun _ => cL vs L 0) (fun _ => uL L) μ1 := ⟨h, hl, hlen⟩
      refine b_X4_readLaw_26 (ψ0 := fun _ _ => True) hG hP hw (fun z => absurd hz z) (fun z => absurd hz z) (fun _ => v_ltake hG hP h79 h0 (fun a ha => by cases ha; show kd Y t ≠ 0 ∧ kd Y t ≠ 3; omega)) (fun _ μ2 h2 => ?_)
      obtain ⟨h2, o2⟩ := h2
      have P2 := o2.gPP hP; have T2 := o2.tO hw
      refine b_X4_readLaw_36 hG P2 T2 (v_readSum hG P2 h79 T2 (by decide) h2) (fun μ3 h3 => ?_)
      obtain ⟨h3, o3⟩ := h3
      have P3 := o3.gPP P2; have T3 := o3.tO T2
      refine b_X4_readLaw_41 hG P3 T3 (v_lexpect (k := 13) hG P3 h79 h3 rfl (by decide)) (fun v4 μ4 h4' => ?_)
      obtain ⟨h4', o4⟩ := h4'
      have P4 := o4.gPP P3; have T4 := o4.tO T3
      refine b_X4_readLaw_47 hG P4 T4 (v_readSum hG P4 h79 T4 (by decide) h4') (fun μ5 h5 => ?_)
      obtain ⟨h5, o5⟩ := h5
      have P5 := o5.gPP P4; have T5 := o5.tO T4
      refine b_X4_readLaw_53 hG P5 T5 (v_lexpect (k := 32) hG P5 h79 h5 rfl (by decide)) (fun v6 μ6 h6 => ?_)
      obtain ⟨h6, o6⟩ := h6
      have P6 := o6.gPP P5; have T6 := o6.tO T5
      refine b_X4_readLaw_60 hG P6 T6 (v_add (k := 6) hG P6 h79 T6 h6 (by decide) rfl) (fun v7 μ7 h7 => ?_)
      obtain ⟨g7, h7, o7⟩ := h7
      have P7 := o7.gPP P6; have T7 := o7.tO T6
      refine b_X4_readLaw_68 hG P7 T7 (v_readSum hG P7 h79 T7 (by decide) h7) (fun μ8 h8 => ?_)
      obtain ⟨h8, o8⟩ := h8
      have P8 := o8.gPP P7; have T8 := o8.tO T7
      refine b_X4_readLaw_74 hG P8 T8 (v_lexpect (k := 33) hG P8 h79 h8 rfl (by decide)) (fun v9 μ9 h9 => ?_)
      obtain ⟨h9, o9⟩ := h9
      have P9 := o9.gPP P8; have T9 := o9.tO T8
      refine b_X4_readLaw_81 hG P9 T9 (v_add (k := 7) hG P9 h79 T9 h9 (by decide) rfl) (fun va μa ha => ?_)
      obtain ⟨-, ha, oa⟩ := ha
      have Pa := oa.gPP P9; have Ta := oa.tO T9
      have oo : lF w fEc μ1 μa := (((((((o2.trans o3).trans o4).trans o5).trans o6).trans o7).trans o8).trans o9).trans oa
      have i1 : nI (4 - (n + 1)) + 1 = nI (4 - n) := by rw [nI_inc]; congr 1; omega
      generalize hx7 : (px (px _ _) _ : Except pF _) = x7 at ha
      have hne : ¬ n + 1 = 0 := by omega
      have hlw : lwL Y (n + 1 + 1) t L = bd x7 fun p => lwL Y (n + 1) p.2 (L ++ [(some (p.1.1.1.1.1.2.2, p.1.1.1.2.2), p.1.2.2)]) := by
        rw [← hx7]
        conv => lhs; unfold lwL
        rw [if_pos hk, if_neg hne]
        simp only [px_bd, bd_ok]; rfl
      rw [hlw] at K
      cases x7 with
      | error f =>
        have ma : smB w f μa := ha
        refine b_X4_readLaw_89 hG Pa Ta (d_X2_aim hG Pa h79 Ta ma.2 _) (fun μb hb => ?_)
        obtain ⟨hb, ob⟩ := hb
        have Pb := ob.gPP Pa; have Tb := ob.tO Ta
        exact b_X4_readLaw_95 hG Pb Tb (lw_bad hG Pb h79 Tb ⟨lF_cB ma.1 ob, hb⟩ _ (fun μc hc => K μc ⟨hc.1, (oo.trans (ob.mono (by decide))).trans hc.2⟩))
      | ok p =>
        obtain ⟨x6, y7⟩ := px_inv hx7
        obtain ⟨x5, y6⟩ := px_inv x6
        have e7 := g7 _ x5
        obtain ⟨k1, s1, l1⟩ := pR_ok ha rfl
        obtain ⟨U, hU⟩ : ∃ U, p.1.1.1.1.1.2.2 = U := ⟨_, rfl⟩
        obtain ⟨V, hV⟩ : ∃ V, p.1.1.1.2.2 = V := ⟨_, rfl⟩
        obtain ⟨Z, hZ⟩ : ∃ Z, p.1.2.2 = Z := ⟨_, rfl⟩
        rw [hU, hV] at e7
        simp only [hU, hV, hZ] at s1 l1 k1
        rw [bd_ok, hU, hV, hZ] at K
        have k1t := k1.2.1.1
        have e1 : cL vs L 0 ++ cE vs U ++ cE vs V ++ [(6, 0)] ++ cE vs Z ++ [(7, 0)] = (cL vs L 0 ++ cE vs U ++ cE vs V) ++ (6, 0) :: (cE vs Z ++ [(7, 0)]) := by simp
        rw [e1] at s1 l1
        refine b_X4_readLaw_89 hG Pa Ta (c_X2_aim hG Pa h79 Ta s1 (by omega) e7) (fun μb hb => ?_)
        obtain ⟨hb, ob⟩ := hb
        have Pb := ob.gPP Pa; have Tb := ob.tO Ta
        have e2 : cL vs (L ++ [(some (U, V), Z)]) 0 = (cL vs L 0 ++ cE vs U ++ cE vs V) ++ (6, ((cL vs L 0 ++ cE vs U ++ cE vs V) ++ (6, 0) :: (cE vs Z ++ [(7, 0)])).length) :: (cE vs Z ++ [(7, 0)]) := by
          rw [cL_app L _ 0 hS]
          have : ((cL vs L 0 ++ cE vs U ++ cE vs V) ++ (6, 0) :: (cE vs Z ++ [(7, 0)])).length = 0 + (cL vs L 0).length + U.length + V.length + Z.length + 2 := by
            simp only [List.length_append, List.length_cons, cE_len, List.length_nil]; omega
          rw [this]
          simp only [cL, List.append_assoc]
        have e3 : uL (L ++ [(some (U, V), Z)]) = uA (uA (uA (uL L) U) V) Z := by
          funext i; rw [uL_app]; unfold uA
          show (uL L i || (uE Z i || (uE U i || uE V i))) = _
          cases uL L i <;> cases uE Z i <;> cases uE U i <;> cases uE V i <;> rfl
        have lb : ((cL vs L 0 ++ cE vs U ++ cE vs V) ++ (6, ((cL vs L 0 ++ cE vs U ++ cE vs V) ++ (6, 0) :: (cE vs Z ++ [(7, 0)])).length) :: (cE vs Z ++ [(7, 0)])).length = ((cL vs L 0 ++ cE vs U ++ cE vs V) ++ (6, 0) :: (cE vs Z ++ [(7, 0)])).length := by simp
        refine b_X4_readLaw_95 hG Pb Tb ?_
        rw [i1]
        refine ih p.2 (L ++ [(some (U, V), Z)]) μb (by omega) Pb Tb (fun br hbr => ?_) (lF_okC k1 ob h79) (by rw [e2, e3]; exact hb) (by rw [e2, lb]; omega) (fun μc hc => K μc ⟨hc.1, (oo.trans (ob.mono (by decide))).trans hc.2⟩)
        rcases List.mem_append.mp hbr with z | z
        · exact hS br z
        · rw [List.mem_singleton] at z; rw [z]; rfl
    · rw [show lwL Y (n + 1 + 1) t L = bd (exS Y t) fun e => .ok (e.1, L ++ [(none, e.2)]) from by conv => lhs; unfold lwL; rw [if_neg hk]] at K
      have hz : ¬ kC (kd Y t) = 139 := fun z => hk ((k_139 _ hk43).mp z)
      refine b_X4_readLaw_26 (ψ1 := fun _ => True) hG hP hw (fun _ => c_X4_kindHere hG hP h) (fun _ v μ2 hv => ?_) (fun z => absurd z hz) (fun z => absurd z hz)
      obtain ⟨rfl, rfl⟩ := hv
      exact lw_fin hG hP h79 hw hS h hl hlen hk K
theorem c_X4_readLaw (hG : gGG G) {μ : jM} (hP : gPP μ) (h79 : 79 ≤ w) (hw : tO gLaw pLaw G μ w) (hv : vsK μ w vs) {t : Nat} (h : okC Y t s μ) (hk : kd Y t ≠ 0 ∧ kd Y t ≠ 3) : jC0 l mX4_readLaw 4 G [.ref 3, .ref w] μ (pV fun μ' => pR (bd (tke Y t) fun t1 => bd (xpc Y 5 t1) fun t2 => lwL Y 5 t2 []) (fun r μ' => lwP Y s w vs r μ' ∧ ∀ i, i < 84 → μ'.2.1 (w + 1) i = -1) cB μ' ∧ lG w fEc μ μ') := by
  refine jC0.of' (ls := [.ref 3, .ref w, .null, .null]) rfl rfl rfl (fun _ _ => Nat.le_of_ble_eq_true rfl) ?_
  refine b_X4_readLaw_0 hG hP hw (c_X4_take hG hP h hk) (fun μ1 h1 => ?_)
  obtain ⟨h1, o1⟩ := h1
  have P1 := o1.gPP hP
  have T1 := o1.tO hw
  have v1 : vsK μ1 w vs := by unfold vsK at hv ⊢; rw [o1.2.1 w (by omega) (by simp)]; exact hv
  refine b_X4_readLaw_4 hG P1 T1 (c_X2_clear hG P1 h79 T1 v1) (fun μ2 h2 => ?_)
  obtain ⟨s2, ky2, o2⟩ := h2
  have P2 : gPP μ2 := gPP_of o2.1 P1
  have T2 : tO gLaw pLaw G μ2 w := tO_of o2.1 T1
  have g3 : ∀ f, μ2.1 3 f = μ1.1 3 f := fun f => o2.2.2.2.1 f (by simp)
  have keep : ∀ {x : Except pF Nat}, pR x (fun t' μ' => okC Y t' s μ') cB μ1 → pR x (fun t' μ' => okC Y t' s μ') cB μ2 := fun {x} hh => by
    refine pR_mono hh (fun a _ q => ?_) (fun e q => ?_)
    · obtain ⟨a1, a2, a3, a4, a5, a6⟩ := q
      refine ⟨?_, a2, a3, by rw [g3]; exact a4, by rw [g3]; exact a5, ?_⟩
      · unfold lexC tkC at a1 ⊢
        rw [o2.2.1 5 (by decide) (fun z => by cases z) (by omega) (by omega), o2.2.1 6 (by decide) (fun z => by cases z) (by omega) (by omega), o2.2.2.2.2 7 (by omega) (by omega)]; exact a1
      · unfold sC at a6 ⊢; rw [g3, g3]; exact a6
    · unfold cB at q ⊢; rw [g3, g3, g3]; exact q
  have h2' := keep h1
  have c2 : lC Y s w vs 0 (tke Y t) id (fun _ => []) (fun _ _ => false) μ2 := pR_mono h2' (fun a _ q => ⟨q, s2, Nat.zero_le _⟩) (fun e q => ⟨q, lwS_B s2 (Nat.zero_le _)⟩)
  have oA : lG w fEc μ μ2 := (lF_30 o1 h79 (by decide)).G.trans ⟨o2.1, fun c a b => o2.2.1 c a (fun _ => by simp), o2.2.2.1, fun f _ => g3 f, o2.2.2.2.2⟩
  refine b_X4_readLaw_8 hG P2 T2 (v_lexpect (k := 5) hG P2 h79 c2 rfl (by decide)) (fun v μ3 h3 => ?_)
  obtain ⟨h3, o3⟩ := h3
  have P3 := o3.gPP P2; have T3 := o3.tO T2
  refine b_X4_readLaw_14 hG P3 T3 ?_
  have ky3 : ∀ i, i < 84 → μ3.2.1 (w + 1) i = -1 := fun i hi => by rw [o3.2.2.2.2.1 (w + 1) (by omega)]; exact ky2 i hi
  have hspec : (bd (tke Y t) fun t1 => bd (xpc Y 5 t1) fun t2 => lwL Y 5 t2 []) = bd (px (tke Y t) fun a => xpc Y 5 (id a)) fun p => lwL Y 5 p.2 [] := by rw [px_bd]; rfl
  rw [hspec]
  cases ex : (px (tke Y t) fun a => xpc Y 5 (id a)) with
  | error f =>
    rw [ex] at h3
    exact lw_bad hG P3 h79 T3 h3 _ (fun μ4 h4 => ⟨h4.1.1, (oA.trans o3.G).trans h4.2.G⟩)
  | ok p =>
    rw [ex] at h3
    obtain ⟨k3, s3, l3⟩ := (show okC Y p.2 s μ3 ∧ lwS μ3 w vs [] (fun _ => false) ∧ ([] : List (Nat × Nat)).length + 1 ≤ p.2 from h3)
    rw [bd_ok]
    refine lw_loop hG h79 4 p.2 [] μ3 (Nat.le_refl _) P3 T3 (fun br hb => by cases hb) k3 s3 l3 (fun μ4 h4 => ⟨?_, (oA.trans o3.G).trans h4.2.G⟩)
    refine pR_mono h4.1 (fun r _ q => ⟨q, fun i hi => ?_⟩) (fun e q => q.1)
    rw [h4.2.2.2.2.2.1 (w + 1) (by omega)]; exact ky3 i hi
end ClW
