/-! THE CLASS reads an E: operators, the whole of it -/
section ClS
variable {l : Launch} {G : jG} {Y : List Int32} {s : Nat × Nat} {w : Nat} {vs u0 : Nat → Bool} {K0 : List (Nat × Nat)} {t0 : Nat} {φ : jM → Prop}
/-- what an operator, or none, makes -/
def opR (Y : List Int32) (s : Nat × Nat) (w : Nat) (vs : Nat → Bool) (K0 : List (Nat × Nat)) (u0 : Nat → Bool) (t0 t d : Nat) (W : List Nat) (o : sE) (v : Int32) (μ : jM) : Prop :=
  if rnk (kd Y t) = 0 then v = 0 ∧ (if 0 < d then bC w (1, pl Y t) μ else eC Y s w vs K0 u0 t0 t d W o 1 μ)
  else v = 1 ∧ pR (tke Y t) (fun t' μ => eC Y s w vs K0 u0 t0 t' d (kd Y t :: (pw (rnk (kd Y t)) W o).1) (pw (rnk (kd Y t)) W o).2 0 μ) (bC w) μ
theorem c_X4_readOperator (hG : gGG G) {μ : jM} (hP : gPP μ) (h79 : 79 ≤ w) (hw : tO gLaw pLaw G μ w) (hK : K0.length < t0) {t d : Nat} {W : List Nat} {o : sE} (hs : eC Y s w vs K0 u0 t0 t d W o 1 μ) : jC0 l mX4_readOperator 2 G [.ref 3, .ref w] μ (pI fun v μ' => opR Y s w vs K0 u0 t0 t d W o v μ' ∧ lF w fEc μ μ') := by
  refine jC0.of' (ls := [.ref 3, .ref w, .null, .null]) rfl rfl rfl (fun _ _ => Nat.le_of_ble_eq_true rfl) ?_
  obtain ⟨h1, h2, h3, h4, h5⟩ := id hs
  obtain ⟨b1, b2, b3, b4⟩ := eC_len hs hK
  have hk43 := kd_in (Y := Y) (i := t)
  refine b_X4_readOperator_0 hG hP hw (c_X4_kindHere hG hP h1) (fun v μ1 hv => ?_)
  obtain ⟨rfl, rfl⟩ := hv
  refine b_X4_readOperator_4 hG hP hw (c_X4_rankOf hG hP _) (fun v μ2 hv => ?_)
  obtain ⟨rfl, rfl⟩ := hv
  rw [rkI_k _ hk43]
  have rr : rnk (kd Y t) ≤ 2 := by unfold rnk; split; omega; split <;> omega
  by_cases hr : rnk (kd Y t) = 0
  · rw [hr]
    by_cases hd : 0 < d
    · have e0 : ¬ μ2.1 3 6 ≤ 0 := by rw [h2]; exact nI_nle hd (by omega)
      refine b_X4_readOperator_9 (ψ0 := fun _ => True) hG hP hw (fun z => absurd rfl z) (fun z => absurd rfl z) (fun _ z => absurd z e0) (fun _ _ => c_X4_failHere hG hP h1 (k := 1) rfl (Or.inl rfl)) (fun _ _ μ3 h3' => ?_)
      obtain ⟨m3, o3⟩ := h3'
      refine b_X4_readOperator_26 hG (o3.gPP hP) ⟨?_, lF_30 o3 h79 (by decide)⟩
      unfold opR
      rw [if_pos hr, if_pos hd]
      exact ⟨rfl, m3, lwS_B (lwS_3 h4 (o3.mono (by decide) (fun _ z => z) (fun _ z => z)) h79) (by rw [List.length_append, cE_len]; omega), wtC_B (wtC_3 h3 o3) (by omega)⟩
    · have e0 : μ2.1 3 6 ≤ 0 := by rw [h2, show d = 0 by omega]; decide
      refine b_X4_readOperator_9 (ψ0 := fun _ => True) (ψ2 := fun _ => True) hG hP hw (fun z => absurd rfl z) (fun z => absurd rfl z) (fun _ _ => ⟨?_, lF.refl⟩) (fun _ z => absurd e0 z) (fun _ z => absurd e0 z)
      unfold opR
      rw [if_pos hr, if_neg hd]
      exact ⟨rfl, hs⟩
  · have hz : ¬ nI (rnk (kd Y t)) = 0 := nI_ne0 (by omega) (by omega)
    have hopk := rnk_op (show 1 ≤ rnk (kd Y t) by omega)
    refine b_X4_readOperator_9 (ψ2 := fun _ => True) hG hP hw (fun _ => c_X4_settle (r := rnk (kd Y t)) hG hP h79 hw (by omega) (wW_op d W h5.2.2.1) h3 h4 (by omega) (by omega) rfl) (fun _ μ3 h3' => ?_) (fun z => absurd z hz) (fun z => absurd z hz) (fun z => absurd z hz)
    obtain ⟨w3, s3, o3⟩ := h3'
    have P3 := o3.gPP hP
    have hl2 := wW_len d _ (wW_push h5.2.2.1 hr o)
    rw [List.length_cons] at hl2
    have hlen := pw_len (r := rnk (kd Y t)) (by omega) W o
    refine b_X4_readOperator_34 hG P3 (c_X4_putOff (k := kd Y t) hG P3 w3 (by omega) rfl) (fun μ4 h4' => ?_)
    obtain ⟨w4, o4⟩ := h4'
    have P4 := o4.gPP P3
    have k4 : okC Y t s μ4 := okC_off (lF_okC h1 o3 h79) o4
    have s4 := lwS_3 s3 o4 h79
    refine b_X4_readOperator_39 hG P4 (c_X4_take hG P4 k4 (by omega)) (fun μ5 h5' => ?_)
    obtain ⟨h5', o5⟩ := h5'
    have o5' : cO3 [11] gF [] μ4 μ5 := o5.mono (by decide) (fun _ z => z) (fun _ z => z)
    refine b_X4_readOperator_43 hG (o5.gPP P4) ⟨?_, ((o3.mono (by decide)).trans (lF_3 o4 h79 (by decide))).trans (lF_30 o5 h79 (by decide))⟩
    unfold opR
    rw [if_neg hr]
    refine ⟨rfl, ?_⟩
    cases et : tke Y t with
    | error f => exact ⟨pR_er h5' et, lwS_B (lwS_3 s4 o5' h79) (by rw [List.length_append, cE_len]; omega), wtC_B (wtC_3 w4 o5) (by rw [List.length_cons]; omega)⟩
    | ok t' =>
      have k5 := pR_ok h5' et
      obtain ⟨rfl, h400⟩ := tke_ok et
      refine ⟨k5, ?_, wtC_3 w4 o5, by rw [uA_pw]; exact lwS_3 s4 o5' h79, xI_op h5 hr h400⟩
      rw [o5.f 6, o4.f 6, o3.2.2.2.1 6 (by decide)]; exact h2
theorem d_X4_readOperator (hG : gGG G) {μ : jM} (hP : gPP μ) (hw : tO gLaw pLaw G μ w) {e : pF} (h : bC w e μ) : jC0 l mX4_readOperator 2 G [.ref 3, .ref w] μ (pI fun v μ' => v = 0 ∧ μ' = μ) := by
  refine jC0.of' (ls := [.ref 3, .ref w, .null, .null]) rfl rfl rfl (fun _ _ => Nat.le_of_ble_eq_true rfl) ?_
  refine b_X4_readOperator_0 hG hP hw (d_X4_kindHere hG hP h.1) (fun v μ1 hv => ?_)
  obtain ⟨rfl, rfl⟩ := hv
  refine b_X4_readOperator_4 hG hP hw (c_X4_rankOf hG hP _) (fun v μ2 hv => ?_)
  obtain ⟨rfl, rfl⟩ := hv
  refine b_X4_readOperator_9 (ψ0 := fun _ => True) hG hP hw (fun z => absurd (by decide) z) (fun z => absurd (by decide) z) (fun _ _ => ⟨rfl, rfl⟩) (fun _ _ => d_X4_failHere hG hP h.1 _) (fun _ _ μ3 h3 => ?_)
  subst h3
  exact b_X4_readOperator_26 hG hP ⟨rfl, rfl⟩
/-- an E that is read -/
def smR (Y : List Int32) (s : Nat × Nat) (w : Nat) (vs : Nat → Bool) (K0 : List (Nat × Nat)) (u0 : Nat → Bool) (r : Nat × sE) (μ : jM) : Prop := okC Y r.1 s μ ∧ lwS μ w vs (K0 ++ cE vs r.2) (uA u0 r.2)
def smB (w : Nat) (e : pF) (μ : jM) : Prop := cB e μ ∧ lwB w μ
def exR (Y : List Int32) (n t d : Nat) (W : List Nat) (o : sE) : Except pF (Nat × sE) := if rnk (kd Y t) = 0 then (if 0 < d then .error (1, pl Y t) else .ok (t, (pw 1 W o).2)) else bd (tke Y t) fun t' => exL Y n t' d (kd Y t :: (pw (rnk (kd Y t)) W o).1) (pw (rnk (kd Y t)) W o).2
theorem exL_R {n t d : Nat} {W : List Nat} {o : sE} : exL Y (n + 1) t d W o = bd (un1 Y t d W o) fun q => exR Y n q.1 q.2.1 q.2.2.1 q.2.2.2 := rfl
theorem sm_bad (hG : gGG G) {μ μ0 : jM} (hP : gPP μ) (h79 : 79 ≤ w) (hw : tO gLaw pLaw G μ w) {e : pF} (h : bC w e μ) (x : Int32) (K : ∀ μ', smB w e μ' → lF w fEc μ μ' → φ μ') : J l mX4_readSum (jZ0 3 G (pV φ)) G 0 0 17 [.ref 3, .ref w, .int x] [] μ := by
  have fin : ∀ μ', (lwB w μ' ∧ wtB μ' ∧ lF w [5] μ μ') → J l mX4_readSum (jZ0 3 G (pV φ)) G 0 0 49 [.null, .null, .null] [] μ' := fun μ' h' => b_X4_readSum_49 hG (h'.2.2.gPP hP) (K μ' ⟨lF_cB h.1 h'.2.2, h'.1⟩ (h'.2.2.mono (by decide)))
  refine b_X4_readSum_17 hG hP hw (fun _ => d_X4_settle hG hP h79 hw h.2.1 h.2.2 _) (fun _ μ' h' => fin μ' h') (fun _ => d_X4_readOperator hG hP hw h) (fun _ v μ1 hv => ?_)
  obtain ⟨rfl, rfl⟩ := hv
  exact b_X4_readSum_29 (ψ1 := fun _ => True) hG hP hw (fun _ => d_X4_settle hG hP h79 hw h.2.1 h.2.2 _) (fun _ μ' h' => fin μ' h') (fun z => absurd rfl z) (fun z => absurd rfl z)
theorem sm_loop (hG : gGG G) (h79 : 79 ≤ w) (hK : K0.length < t0) : ∀ (n i t d : Nat) (W : List Nat) (o : sE) (μ : jM), 401 ≤ n + t → i < t → gPP μ → tO gLaw pLaw G μ w → eC Y s w vs K0 u0 t0 t d W o 1 μ → (∀ μ', pR (exR Y n t d W o) (smR Y s w vs K0 u0) (smB w) μ' ∧ lF w fEc μ μ' → φ μ') → J l mX4_readSum (jZ0 3 G (pV φ)) G 0 0 17 [.ref 3, .ref w, .int (nI i)] [] μ := by
  intro n
  induction n with
  | zero => intro i t d W o μ hn _ _ _ hs _; have := (eC_len hs hK).2.1; omega
  | succ n ih =>
    intro i t d W o μ hn hi hP hw hs K
    obtain ⟨h1, h2, h3, h4, h5⟩ := id hs
    obtain ⟨b1, b2, b3, b4⟩ := eC_len hs hK
    have hi4 : ¬ (400 : Int32) ≤ nI i := nI_ge (b := 400) (by omega) (by decide)
    refine b_X4_readSum_17 (ψ0 := fun _ => True) hG hP hw (fun z => absurd z hi4) (fun z => absurd z hi4) (fun _ => c_X4_readOperator hG hP h79 hw hK hs) (fun _ v μ1 hv => ?_)
    obtain ⟨hv, o1⟩ := hv
    have P1 := o1.gPP hP
    have T1 := o1.tO hw
    unfold opR at hv
    unfold exR at K
    by_cases hr : rnk (kd Y t) = 0
    · rw [if_pos hr] at hv K
      obtain ⟨rfl, hv⟩ := hv
      by_cases hd : 0 < d
      · rw [if_pos hd] at hv K
        refine b_X4_readSum_29 (ψ1 := fun _ => True) hG P1 T1 (fun _ => d_X4_settle hG P1 h79 T1 hv.2.1 hv.2.2 _) (fun _ μ2 h2' => ?_) (fun z => absurd rfl z) (fun z => absurd rfl z)
        exact b_X4_readSum_49 hG (h2'.2.2.gPP P1) (K μ2 ⟨⟨lF_cB hv.1 h2'.2.2, h2'.1⟩, o1.trans (h2'.2.2.mono (by decide))⟩)
      · rw [if_neg hd] at hv K
        obtain ⟨k1, k2, k3, k4, k5⟩ := id hv
        refine b_X4_readSum_29 (ψ1 := fun _ => True) hG P1 T1 (fun _ => c_X4_settle (r := 1) hG P1 h79 T1 (Or.inl rfl) (wW_op d W k5.2.2.1) k3 k4 (by omega) (by omega) rfl) (fun _ μ2 h2' => ?_) (fun z => absurd rfl z) (fun z => absurd rfl z)
        obtain ⟨-, s2, o2⟩ := h2'
        refine b_X4_readSum_49 hG (o2.gPP P1) (K μ2 ⟨⟨lF_okC k1 o2 h79, ?_⟩, o1.trans (o2.mono (by decide))⟩)
        rw [uA_pw]; exact s2
    · rw [if_neg hr] at hv K
      obtain ⟨rfl, hv⟩ := hv
      cases et : tke Y t with
      | error f =>
        have m1 : bC w f μ1 := pR_er hv et
        rw [et] at K
        refine b_X4_readSum_29 (ψ0 := fun _ => True) hG P1 T1 (fun z => absurd z (by decide)) (fun z => absurd z (by decide)) (fun _ => d_X4_readUnit hG P1 T1 m1) (fun _ μ2 h2' => ?_)
        subst h2'
        exact b_X4_readSum_37 hG P1 T1 (sm_bad (μ0 := μ2) hG P1 h79 T1 m1 _ (fun μ3 h3 o3 => K μ3 ⟨h3, o1.trans o3⟩))
      | ok t' =>
        have s1 := pR_ok hv et
        obtain ⟨et', -⟩ := tke_ok et
        rw [et, bd_ok, exL_R] at K
        refine b_X4_readSum_29 (ψ0 := fun _ => True) hG P1 T1 (fun z => absurd z (by decide)) (fun z => absurd z (by decide)) (fun _ => c_X4_readUnit hG P1 h79 T1 hK s1) (fun _ μ2 h2' => ?_)
        obtain ⟨h2', o2⟩ := h2'
        have P2 := o2.gPP P1
        have T2 := o2.tO T1
        refine b_X4_readSum_37 hG P2 T2 ?_
        rw [nI_inc]
        cases eu : un1 Y t' d (kd Y t :: (pw (rnk (kd Y t)) W o).1) (pw (rnk (kd Y t)) W o).2 with
        | error f =>
          have m2 : bC w f μ2 := pR_er h2' eu
          rw [eu] at K
          exact sm_bad (μ0 := μ2) hG P2 h79 T2 m2 _ (fun μ3 h3 o3 => K μ3 ⟨h3, (o1.trans o2).trans o3⟩)
        | ok q =>
          have s2 := pR_ok h2' eu
          rw [eu, bd_ok] at K
          have htq := (un1_ok s1.2.2.2.2 eu).2
          exact ih (i + 1) q.1 q.2.1 q.2.2.1 q.2.2.2 μ2 (by omega) (by omega) P2 T2 s2 (fun μ3 h3 => K μ3 ⟨h3.1, (o1.trans o2).trans h3.2⟩)
theorem c_X4_readSum (hG : gGG G) {μ : jM} (hP : gPP μ) (h79 : 79 ≤ w) (hw : tO gLaw pLaw G μ w) {t : Nat} (hK : K0.length < t) (h : okC Y t s μ) (hl : lwS μ w vs K0 u0) : jC0 l mX4_readSum 3 G [.ref 3, .ref w] μ (pV fun μ' => pR (exS Y t) (smR Y s w vs K0 u0) (smB w) μ' ∧ lF w fEc μ μ') := by
  refine jC0.of' (ls := [.ref 3, .ref w, .null]) rfl rfl rfl (fun _ _ => Nat.le_of_ble_eq_true rfl) ?_
  have o1 : cO3 [] [5, 6] [] μ (wI (wI μ 3 5 0) 3 6 0) := (cO3_wF (by decide)).trans (cO3_wF (by decide))
  have P1 := o1.gPP hP
  have s1 : eC Y s w vs K0 u0 t t 0 [] [] 0 (wI (wI μ 3 5 0) 3 6 0) := ⟨okC_off h o1, wI_at, ⟨by rw [wI_off' (by decide), wI_at]; rfl, trivial⟩, by
    have e1 : K0 ++ cE vs [] = K0 := List.append_nil _
    have e2 : uA u0 [] = u0 := by funext i; unfold uA uE; simp
    rw [e1, e2]; exact lwS_3 hl (o1.mono (by decide) (fun _ z => z) (fun _ z => z)) h79, xI_0 h.2.1.1 h.2.1.2⟩
  refine b_X4_readSum_0 hG hP hw (c_X4_readUnit hG P1 h79 (o1.tO hw) hK s1) (fun μ2 h2 => ?_)
  obtain ⟨h2, o2⟩ := h2
  have P2 := o2.gPP P1
  have T2 := o2.tO (o1.tO hw)
  have oo : lF w fEc μ μ2 := (lF_30 o1 h79 (by decide)).trans o2
  refine b_X4_readSum_15 hG P2 T2 ?_
  have hex : exS Y t = bd (un1 Y t 0 [] []) fun q => exR Y 400 q.1 q.2.1 q.2.2.1 q.2.2.2 := rfl
  rw [hex]
  cases eu : un1 Y t 0 [] [] with
  | error f => exact sm_bad (μ0 := μ2) hG P2 h79 T2 (pR_er h2 eu) _ (fun μ3 h3 o3 => ⟨h3, oo.trans o3⟩)
  | ok q =>
    have htq := (un1_ok s1.2.2.2.2 eu).2
    exact sm_loop hG h79 hK 400 0 q.1 q.2.1 q.2.2.1 q.2.2.2 μ2 (by omega) (by omega) P2 T2 (pR_ok h2 eu) (fun μ3 h3 => ⟨h3.1, oo.trans h3.2⟩)
theorem d_X4_readSum (hG : gGG G) {μ : jM} (hP : gPP μ) (h79 : 79 ≤ w) (hw : tO gLaw pLaw G μ w) {e : pF} (h : smB w e μ) : jC0 l mX4_readSum 3 G [.ref 3, .ref w] μ (pV fun μ' => smB w e μ' ∧ lF w fEc μ μ') := by
  refine jC0.of' (ls := [.ref 3, .ref w, .null]) rfl rfl rfl (fun _ _ => Nat.le_of_ble_eq_true rfl) ?_
  have o1 : cO3 [] [5, 6] [] μ (wI (wI μ 3 5 0) 3 6 0) := (cO3_wF (by decide)).trans (cO3_wF (by decide))
  have P1 := o1.gPP hP
  have m1 : bC w e (wI (wI μ 3 5 0) 3 6 0) := ⟨cB_off h.1 o1, lwB_3 h.2 (o1.mono (by decide) (fun _ z => z) (fun _ z => z)) h79, 0, by decide, by rw [wI_off' (by decide), wI_at]; rfl⟩
  refine b_X4_readSum_0 hG hP hw (d_X4_readUnit hG P1 (o1.tO hw) m1) (fun μ2 h2 => ?_)
  subst h2
  refine b_X4_readSum_15 hG P1 (o1.tO hw) (sm_bad (μ0 := μ) hG P1 h79 (o1.tO hw) m1 _ (fun μ3 h3 o3 => ⟨h3, (lF_30 o1 h79 (by decide)).trans o3⟩))
/-! unified -/
/-- a LAW that is being read: its works so far, at least m TOKENS more than works -/
def lC {α : Type} (Y : List Int32) (s : Nat × Nat) (w : Nat) (vs : Nat → Bool) (m : Nat) (x : Except pF α) (tk : α → Nat) (Kw : α → List (Nat × Nat)) (us : α → Nat → Bool) (μ : jM) : Prop := pR x (fun a μ => okC Y (tk a) s μ ∧ lwS μ w vs (Kw a) (us a) ∧ (Kw a).length + m ≤ tk a) (smB w) μ
theorem v_readSum {α : Type} (hG : gGG G) {μ : jM} (hP : gPP μ) (h79 : 79 ≤ w) (hw : tO gLaw pLaw G μ w) {m : Nat} (hm : 1 ≤ m) {x : Except pF α} {tk : α → Nat} {Kw : α → List (Nat × Nat)} {us : α → Nat → Bool} (h : lC Y s w vs m x tk Kw us μ) : jC0 l mX4_readSum 3 G [.ref 3, .ref w] μ (pV fun μ' => lC Y s w vs m (px x fun a => exS Y (tk a)) (fun p => p.2.1) (fun p => Kw p.1 ++ cE vs p.2.2) (fun p => uA (us p.1) p.2.2) μ' ∧ lF w fEc μ μ') := by
  cases x with
  | ok a =>
    obtain ⟨h1, h2, h3⟩ := (show okC Y (tk a) s μ ∧ lwS μ w vs (Kw a) (us a) ∧ (Kw a).length + m ≤ tk a from h)
    refine (c_X4_readSum hG hP h79 hw (by omega) h1 h2).mono (pV_mono fun μ' h' => ⟨?_, h'.2⟩)
    rw [px_ok]
    cases e : exS Y (tk a) with
    | ok r =>
      obtain ⟨q1, q2⟩ := pR_ok h'.1 e
      have hlen := (exS_ok h1.2.1.1 h1.2.1.2 e).1.2.2.2
      exact ⟨q1, q2, by show (Kw a ++ cE vs r.2).length + m ≤ r.1; rw [List.length_append, cE_len]; omega⟩
    | error f => exact pR_er h'.1 e
  | error e => exact d_X4_readSum hG hP h79 hw h
theorem v_lexpect {α : Type} (hG : gGG G) {μ : jM} (hP : gPP μ) (h79 : 79 ≤ w) {m : Nat} {x : Except pF α} {tk : α → Nat} {Kw : α → List (Nat × Nat)} {us : α → Nat → Bool} (h : lC Y s w vs m x tk Kw us μ) {k : Nat} {z : Int32} (hz : z = kC k) (hk : k < 43 ∧ k ≠ 0 ∧ k ≠ 3) : jC0 l mX4_expect 2 G [.ref 3, .int z] μ (pI fun v μ' => lC Y s w vs (m + 1) (px x fun a => xpc Y k (tk a)) (fun p => p.2) (fun p => Kw p.1) (fun p => us p.1) μ' ∧ lF w fEc μ μ') := by
  have hu : uC Y x tk (fun _ => s) μ := pR_mono h (fun _ _ q => q.1) (fun _ q => q.1)
  refine (v_expect hG hP hu hz hk).mono (pI_mono fun v μ' h' => ⟨?_, lF_30 h'.2.1 h79 (by decide)⟩)
  have o11 : cO3 [11] gF [] μ μ' := h'.2.1.mono (by decide) (fun _ z => z) (fun _ z => z)
  cases x with
  | ok a =>
    have h : okC Y (tk a) s μ ∧ lwS μ w vs (Kw a) (us a) ∧ (Kw a).length + m ≤ tk a := h
    have q := h'.1
    rw [px_ok] at q ⊢
    cases e : xpc Y k (tk a) with
    | ok t' =>
      rw [e] at q
      obtain ⟨-, et, -⟩ := xpc_ok e
      exact ⟨q, lwS_3 h.2.1 o11 h79, by show (Kw a).length + (m + 1) ≤ t'; omega⟩
    | error f =>
      rw [e] at q
      have := h.1.2.1.1
      exact ⟨q, lwB_3 (lwS_B h.2.1 (by omega)) o11 h79⟩
  | error e => exact ⟨h'.1, lwB_3 h.2 o11 h79⟩
theorem v_ltake {α : Type} (hG : gGG G) {μ : jM} (hP : gPP μ) (h79 : 79 ≤ w) {m : Nat} {x : Except pF α} {tk : α → Nat} {Kw : α → List (Nat × Nat)} {us : α → Nat → Bool} (h : lC Y s w vs m x tk Kw us μ) (hk : ∀ a, x = .ok a → kd Y (tk a) ≠ 0 ∧ kd Y (tk a) ≠ 3) : jC0 l mX4_take 1 G [.ref 3] μ (pV fun μ' => lC Y s w vs (m + 1) (px x fun a => tke Y (tk a)) (fun p => p.2) (fun p => Kw p.1) (fun p => us p.1) μ' ∧ lF w fEc μ μ') := by
  have hu : uC Y x tk (fun _ => s) μ := pR_mono h (fun _ _ q => q.1) (fun _ q => q.1)
  refine (v_take hG hP hu hk).mono (pV_mono fun μ' h' => ⟨?_, lF_30 h'.2 h79 (by decide)⟩)
  have o11 : cO3 [11] gF [] μ μ' := h'.2.mono (by decide) (fun _ z => z) (fun _ z => z)
  cases x with
  | ok a =>
    have h : okC Y (tk a) s μ ∧ lwS μ w vs (Kw a) (us a) ∧ (Kw a).length + m ≤ tk a := h
    have q := h'.1
    rw [px_ok] at q ⊢
    cases e : tke Y (tk a) with
    | ok t' =>
      rw [e] at q
      obtain ⟨et, -⟩ := tke_ok e
      exact ⟨q, lwS_3 h.2.1 o11 h79, by show (Kw a).length + (m + 1) ≤ t'; omega⟩
    | error f =>
      rw [e] at q
      have := h.1.2.1.1
      exact ⟨q, lwB_3 (lwS_B h.2.1 (by omega)) o11 h79⟩
  | error e => exact ⟨h'.1, lwB_3 h.2 o11 h79⟩
theorem v_add {α : Type} (hG : gGG G) {μ : jM} (hP : gPP μ) (h79 : 79 ≤ w) (hw : tO gLaw pLaw G μ w) {m : Nat} {x : Except pF α} {tk : α → Nat} {Kw : α → List (Nat × Nat)} {us : α → Nat → Bool} (h : lC Y s w vs (m + 1) x tk Kw us μ) {k : Nat} (hk : k < 8) {z : Int32} (hz : z = nI k) : jC0 l mX2_add 0 G [.ref w, .int z, .int 0] μ (pI fun v μ' => (∀ a, x = .ok a → v = nI (Kw a).length) ∧ lC Y s w vs m x tk (fun a => Kw a ++ [(k, 0)]) us μ' ∧ lF w fEc μ μ') := by
  cases x with
  | ok a =>
    obtain ⟨h1, h2, h3⟩ := (show okC Y (tk a) s μ ∧ lwS μ w vs (Kw a) (us a) ∧ (Kw a).length + (m + 1) ≤ tk a from h)
    have := h1.2.1.1
    refine (c_X2_add (k := k) (n := 0) hG hP h79 hw h2 (by omega) hk (by decide) hz rfl).mono (pI_mono fun v μ' h' => ⟨fun b hb => (by cases hb; exact h'.1), ⟨lF_okC h1 h'.2.2 h79, h'.2.1, ?_⟩, h'.2.2.mono (by decide)⟩)
    show (Kw a ++ [(k, 0)]).length + m ≤ tk a
    simp; omega
  | error e => exact (d_X2_add hG hP h79 hw h.2 _ _).mono (pI_mono fun v μ' h' => ⟨fun b hb => (by cases hb), ⟨lF_cB h.1 h'.2, h'.1⟩, h'.2.mono (by decide)⟩)
end ClS
