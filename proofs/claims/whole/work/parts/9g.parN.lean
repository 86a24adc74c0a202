/-! THE REFERENCE reads: names, PLACES, numbers, words that may stand; with a FAULT of form and without -/
theorem bd_bd {α β γ : Type} {x : Except pF α} {f : α → Except pF β} {g : β → Except pF γ} : bd (bd x f) g = bd x fun a => bd (f a) g := by cases x <;> rfl
/-- a step, with what was known -/
def px {α β : Type} (x : Except pF α) (f : α → Except pF β) : Except pF (α × β) := bd x fun a => bd (f a) fun b => .ok (a, b)
theorem px_bd {α β γ : Type} {x : Except pF α} {f : α → Except pF β} {g : α × β → Except pF γ} : bd (px x f) g = bd x fun a => bd (f a) fun b => g (a, b) := by
  unfold px; rw [bd_bd]; congr 1; funext a; rw [bd_bd]; rfl
theorem px_er {α β : Type} {e : pF} {f : α → Except pF β} : px (.error e) f = .error e := rfl
theorem px_ok {α β : Type} {a : α} {f : α → Except pF β} : px (.ok a) f = bd (f a) fun b => .ok (a, b) := rfl
theorem px_inv {α β : Type} {x : Except pF α} {f : α → Except pF β} {p : α × β} (h : px x f = .ok p) : x = .ok p.1 ∧ f p.1 = .ok p.2 := by
  unfold px at h
  obtain ⟨a, h1, h⟩ := bd_inv h
  obtain ⟨b, h2, h⟩ := bd_inv h
  cases h
  exact ⟨h1, h2⟩
theorem pR_ok {α : Type} {x : Except pF α} {ok : α → jM → Prop} {bad : pF → jM → Prop} {μ : jM} (h : pR x ok bad μ) {a : α} (hx : x = .ok a) : ok a μ := by subst hx; exact h
theorem pR_er {α : Type} {x : Except pF α} {ok : α → jM → Prop} {bad : pF → jM → Prop} {μ : jM} (h : pR x ok bad μ) {e : pF} (hx : x = .error e) : bad e μ := by subst hx; exact h
theorem pR_mono {α : Type} {x : Except pF α} {ok ok' : α → jM → Prop} {bad bad' : pF → jM → Prop} {μ μ' : jM} (h : pR x ok bad μ) (h1 : ∀ a, x = .ok a → ok a μ → ok' a μ') (h2 : ∀ e, bad e μ → bad' e μ') : pR x ok' bad' μ' := by
  cases x with
  | ok a => exact h1 a rfl h
  | error e => exact h2 e h
/-- where a reading stands -/
abbrev uM {α : Type} (Y : List Int32) (x : Except pF α) (tk : α → Nat) (ww : α → Nat × Nat) (μ : jM) : Prop := pR x (fun a μ => okM Y (tk a) (ww a) μ) mB μ
theorem uM_off {α : Type} {Y : List Int32} {x : Except pF α} {tk : α → Nat} {ww : α → Nat × Nat} {C F L : List Nat} {μ μ' : jM} (h : uM Y x tk ww μ) (ho : mO3 C F L μ μ') (c1 : 115 ∉ C := by decide) (c2 : 116 ∉ C := by decide) (c3 : 117 ∉ C := by decide) (c4 : 118 ∉ L := by decide) (h1 : 11 ∉ F := by decide) (h2 : 13 ∉ F := by decide) (h3 : 14 ∉ F := by decide) (h4 : 15 ∉ F := by decide) (h5 : 16 ∉ F := by decide) : uM Y x tk ww μ' :=
  pR_mono h (fun _ _ q => okM_off q ho c1 c2 c3 c4 h1 h2 h4 h5) (fun _ q => mB_off q ho h1 h2 h3)
theorem okM_13 {Y : List Int32} {t : Nat} {w : Nat × Nat} {μ : jM} (h : okM Y t w μ) : μ.1 112 13 = 0 ∧ μ.1 112 13 ≤ 0 ∧ ¬ 0 < μ.1 112 13 := by
  have := h.2.2.2.2.1
  rw [this]; exact ⟨rfl, by decide, by decide⟩
def nmM (N : nL) (μ : jM) : Prop := (N.length ≤ 15 ∧ okN N 0 ∧ ∀ x ∈ N, okW x.1 ∧ (x.2 = NON ∨ x.2 < 8)) ∧ μ.1 112 20 = nI N.length ∧ ∀ (j : Nat) (x : List Nat × Nat), N[j]? = some x → μ.2.1 120 j = lN (en 27 x.1) ∧ μ.1 121 j = nI x.2
theorem nmM_off {N : nL} {C F L : List Nat} {μ μ' : jM} (h : nmM N μ) (ho : mO3 C F L μ μ') (h1 : 20 ∉ F := by decide) (h2 : 121 ∉ C := by decide) (h3 : 120 ∉ L := by decide) : nmM N μ' := by
  unfold nmM at h ⊢
  rw [ho.f 20 h1, ho.c 121 (by decide) h2, ho.g 120 h3]; exact h
def fnd : nL → List Nat → Nat
  | [], _ => NON
  | x :: r, n => if x.1 = n ∧ x.2 ≠ NON then x.2 else fnd r n
theorem fnd_c {x : List Nat × Nat} {r : nL} {n : List Nat} : fnd (x :: r) n = if x.1 = n ∧ x.2 ≠ NON then x.2 else fnd r n := rfl
theorem fnd_fid : ∀ (N : nL) (n : List Nat) (s : Nat), okN N s → fnd N n = fid (plN N) n s := by
  intro N
  induction N with
  | nil => intro n s _; rfl
  | cons x N ih =>
    intro n s h
    unfold fnd
    rcases h with ⟨h1, h2⟩ | ⟨h1, h2, h3⟩
    · rw [if_neg (fun z => z.2 h1), ih n s h2]
      have : plN (x :: N) = plN N := by unfold plN; simp [h1]
      rw [this]
    · have : plN (x :: N) = x.1 :: plN N := by unfold plN; rw [List.filter_cons_of_pos (by simp [h1, h2])]; rfl
      rw [this]
      unfold fid
      by_cases e : x.1 = n
      · rw [if_pos ⟨e, by rw [h1]; exact h2⟩, if_pos e, h1]
      · rw [if_neg (fun z => e z.1), if_neg e]; exact ih n (s + 1) h3
theorem sns_sns {w : Nat × Nat} {k p : Nat} (hk : k ≠ 0) : sns (sns w k p) k p = sns w k p := by
  unfold sns
  by_cases h : w.1 = 0
  · rw [if_pos h, if_neg hk]
  · rw [if_neg h, if_neg h]
/-- the state with another FAULT of sense -/
theorem okM_w {Y : List Int32} {t : Nat} {w w' : Nat × Nat} {μ μ' : jM} (h : okM Y t w μ) (ho : mO3 [] [15, 16] [] μ μ') (hw : wOK Y t w') (hs : sM w' μ') : okM Y t w' μ' := by
  obtain ⟨h1, h2, h3, h4, h5, h6⟩ := h
  exact ⟨lexM_off h1 ho, h2, hw, by rw [ho.f 11]; exact h4, by rw [ho.f 13]; exact h5, hs⟩
section ParN
variable {l : Launch} {G : jG}
theorem u_must {α : Type} (hG : gMM G) {μ : jM} (hP : gNN μ) {Y : List Int32} {x : Except pF α} {tk : α → Nat} {ww : α → Nat × Nat} (h : uM Y x tk ww μ) {k : Nat} {z : Int32} (hz : z = nI k) (hk : k < 43 ∧ k ≠ 0 ∧ k ≠ 3) : jC0 l mX12_must 2 G [.ref 112, .int z] μ (pV fun μ' => uM Y (px x fun a => xpc Y k (tk a)) (fun p => p.2) (fun p => ww p.1) μ' ∧ mO3 [] fF [] μ μ') := by
  cases x with
  | ok a =>
    have h : okM Y (tk a) (ww a) μ := h
    refine (c_X12_must hG hP h hz (by omega)).mono (pV_mono fun μ' h' => ?_)
    rw [px_ok]
    cases e : xpc Y k (tk a) with
    | ok t' =>
      rw [e] at h'
      have h' : μ' = wI μ 112 11 (nI t') := h'
      obtain ⟨q1, q2, q3⟩ := xpc_w hk.2 h.2.1 h.2.2.1 e
      rw [h']
      exact ⟨okM_t h q1 q2, mO3_wF (by decide)⟩
    | error f => rw [e] at h'; exact h'
  | error e => exact d_X12_must hG hP h z
theorem u_goesOn {α : Type} (hG : gMM G) {μ : jM} (hP : gNN μ) {Y : List Int32} {x : Except pF α} {tk : α → Nat} {ww : α → Nat × Nat} (h : uM Y x tk ww μ) (hk : ∀ a, x = .ok a → kd Y (tk a) ≠ 0 ∧ kd Y (tk a) ≠ 3) : jC0 l mX12_goesOn 1 G [.ref 112] μ (pV fun μ' => uM Y (px x fun a => tke Y (tk a)) (fun p => p.2) (fun p => ww p.1) μ' ∧ mO3 [] fF [] μ μ') := by
  cases x with
  | ok a =>
    have h : okM Y (tk a) (ww a) μ := h
    refine (c_X12_goesOn hG hP h).mono (pV_mono fun μ' h' => ?_)
    rw [px_ok]
    cases e : tke Y (tk a) with
    | ok t' =>
      rw [e] at h'
      have h' : μ' = wI μ 112 11 (nI t') := h'
      obtain ⟨q1, q2, q3⟩ := tke_w (hk a rfl) h.2.1 h.2.2.1 e
      rw [h']
      exact ⟨okM_t h q1 q2, mO3_wF (by decide)⟩
    | error f => rw [e] at h'; exact h'
  | error e => exact d_X12_goesOn hG hP h
theorem fG_F {μ μ' : jM} (h : mO3 [] fF [] μ μ') : mO3 [] fG [] μ μ' := h.mono (by decide) (by decide) (by decide)
theorem fG_W {μ μ' : jM} (h : mO3 [] [15, 16] [] μ μ') : mO3 [] fG [] μ μ' := h.mono (by decide) (by decide) (by decide)
/-- must leaves what the tokens are -/
theorem u_at {Y : List Int32} {t : Nat} {w : Nat × Nat} {μ : jM} (h : okM Y t w μ) : μ.1 112 11 = nI t ∧ t ≤ 400 ∧ μ.1 116 t = nI (pl Y t) ∧ (kd Y t = 2 → μ.1 117 t = nI (vl Y t)) ∧ (kd Y t = 1 → μ.2.1 118 t = lN (en 27 (nm Y t))) := by
  obtain ⟨h1, h2, h3, h4, h5, h6⟩ := h
  obtain ⟨a, b, c, d⟩ := h1 t h2.1 h2.2
  exact ⟨h4, h2.1, b, c, d⟩
theorem c_X12_named (hG : gMM G) {μ : jM} (hP : gNN μ) {Y : List Int32} (hY : Y.length ≤ 2000) {t : Nat} {w : Nat × Nat} (h : okM Y t w μ) {N : nL} (hN : nmM N μ) : jC0 l mX12_named 3 G [.ref 112] μ (pI fun v μ' => v = nI t ∧ pR (nwN Y t w N) (fun r μ' => okM Y r.1 r.2 μ') mB μ' ∧ mO3 [] fG [] μ μ') := by
  refine jC0.of' (ls := [.ref 112, .null, .null]) rfl rfl rfl (fun _ _ => Nat.le_of_ble_eq_true rfl) ?_
  obtain ⟨a1, a2, a3, -, a5⟩ := u_at h
  refine b_X12_named_0 hG hP (u_must (x := (.ok t : Except pF Nat)) (tk := id) (ww := fun _ => w) hG hP h (k := 1) rfl (by decide)) ?_
  rintro μ1 ⟨h1, o1⟩
  have P1 := o1.gNN hP
  rw [a1]
  refine b_X12_named_10 hG P1 ?_
  unfold nwN
  rw [px_ok] at h1
  cases e : xpc Y 1 t with
  | error f =>
    rw [show xpc Y 1 (id t) = xpc Y 1 t from rfl, e] at h1
    have h1 : mB f μ1 := h1
    have g : nI t = nI t ∧ pR (bd (Except.error f) fun t1 => (.ok (t1, if dpl N (nm Y t) = true then sns w 3 (pl Y t) else w) : Except pF (Nat × (Nat × Nat)))) (fun r μ' => okM Y r.1 r.2 μ') mB μ1 ∧ mO3 [] fG [] μ μ1 := ⟨rfl, h1, fG_F o1⟩
    exact b_X12_named_12 (ψ3 := fun _ => True) hG P1 (fun _ => g) (fun _ _ => g) (fun _ z => absurd z (mB_13 h1).1) (fun _ z => absurd z (mB_13 h1).1) (fun _ z => absurd z (mB_13 h1).1) (fun _ z => absurd z (mB_13 h1).1) (fun _ z => absurd z (mB_13 h1).1)
  | ok t1 =>
    rw [show xpc Y 1 (id t) = xpc Y 1 t from rfl, e] at h1
    have h1 : okM Y t1 w μ1 := h1
    obtain ⟨hk, rfl, h4⟩ := xpc_ok e
    have hw0 := h.2.2.1
    have N1 := nmM_off hN o1
    have hp31 := pl_31 (i := t) hY
    have okn := nm_ok hk
    have wS := wOK_s (k := 3) hw0 (by omega) (by decide)
    have fin : ∀ (w' : Nat × Nat) (μ2 : jM), okM Y (t + 1) w' μ2 → mO3 [] fG [] μ1 μ2 → w' = (if dpl N (nm Y t) = true then sns w 3 (pl Y t) else w) → (nI t = nI t ∧ pR (bd (Except.ok (t + 1)) fun t1 => (.ok (t1, if dpl N (nm Y t) = true then sns w 3 (pl Y t) else w) : Except pF (Nat × (Nat × Nat)))) (fun r μ' => okM Y r.1 r.2 μ') mB μ2 ∧ mO3 [] fG [] μ μ2) := fun w' μ2 q1 q2 q3 => ⟨rfl, by rw [bd_ok, ← q3]; exact q1, (fG_F o1).trans q2⟩
    have loop : ∀ j, j ≤ N.length → ∀ (w' : Nat × Nat) (μ2 : jM), okM Y (t + 1) w' μ2 → mO3 [] fG [] μ1 μ2 → (w' = w ∨ w' = sns w 3 (pl Y t)) → (if dpl (N.drop j) (nm Y t) = true then sns w' 3 (pl Y t) else w') = (if dpl N (nm Y t) = true then sns w 3 (pl Y t) else w) → J l mX12_named (jZ0 3 G (pI fun v μ' => v = nI t ∧ pR (bd (Except.ok (t + 1)) fun t1 => (.ok (t1, if dpl N (nm Y t) = true then sns w 3 (pl Y t) else w) : Except pF (Nat × (Nat × Nat)))) (fun r μ' => okM Y r.1 r.2 μ') mB μ' ∧ mO3 [] fG [] μ μ')) G 0 0 12 [.ref 112, .int (nI t), .int (nI j)] [] μ2 := by
      refine up_loop N.length ?_ (fun j hj ih => ?_)
      · intro w' μ2 q1 q2 q3 q4
        have N2 := nmM_off N1 q2
        have hle : μ2.1 112 20 ≤ nI N.length := by rw [N2.2.1]; exact nI_le (Nat.le_refl _) (by have := N2.1.1; omega)
        rw [List.drop_eq_nil_of_le (Nat.le_refl _)] at q4
        exact b_X12_named_12 (ψ3 := fun _ => True) hG (q2.gNN P1) (fun _ => fin w' μ2 q1 q2 q4) (fun z => absurd hle z) (fun z => absurd hle z) (fun z => absurd hle z) (fun z => absurd hle z) (fun z => absurd hle z) (fun z => absurd hle z)
      · intro w' μ2 q1 q2 q3 q4
        have N2 := nmM_off N1 q2
        have hl := N2.1.1
        have hle : ¬ μ2.1 112 20 ≤ nI j := by rw [N2.2.1]; exact nI_ge hj (by omega)
        have hx : N[j]? = some N[j] := List.getElem?_eq_getElem hj
        obtain ⟨x1, x2⟩ := N2.2.2 j _ hx
        have hxo := (N2.1.2.2 _ (List.getElem_mem hj)).1
        have f8 : μ2.2.1 118 (nI t).toNatClampNeg = lN (en 27 (nm Y t)) := by
          rw [nI_clamp (by omega), q2.g 118, o1.g 118]; exact a5 hk
        have f0 : μ2.2.1 120 (nI j).toNatClampNeg = lN (en 27 (N[j]).1) := by rw [nI_clamp (by omega)]; exact x1
        have hdr : N.drop j = N[j] :: N.drop (j + 1) := List.drop_eq_getElem_cons hj
        rw [hdr] at q4
        have h13 := (okM_13 q1).1
        refine b_X12_named_12 hG (q2.gNN P1) (fun z => absurd z hle) (fun _ z => absurd h13 z) (fun _ _ => vp_in_nI (by omega) (by decide)) (fun _ _ => vp_in_nI (by omega) (by decide)) (fun _ _ hc => ?_) (fun _ _ hc => c_X12_wrong (w := w') (k := 3) (p := pl Y t) hG (q2.gNN P1) h13 q1.2.2.2.2.2 a2 ?_ hp31 (by decide) ?_ ?_) (fun _ _ hc μ3 h3 => ?_)
        · rw [f0, f8, lgc0, nm_inj (by decide) (by decide) hxo okn] at hc
          rw [nI_inc]
          refine ih w' μ2 q1 q2 q3 ?_
          have : dpl (N[j] :: N.drop (j + 1)) (nm Y t) = dpl (N.drop (j + 1)) (nm Y t) := by
            unfold dpl; rw [List.any_cons, show (N[j].1 == nm Y t) = false from by simp [hc]]; rfl
          rw [this] at q4; exact q4
        · rw [q2.c 116, o1.c 116]; exact a3
        · rcases q3 with rfl | rfl
          · exact hw0.1
          · exact wS.1.1
        · intro hw'
          rcases q3 with rfl | rfl
          · exact Or.inl (hw0.2 hw')
          · unfold sns at hw' ⊢
            split
            · exact Or.inr ⟨rfl, Nat.le_refl _⟩
            · next hz => exact Or.inl (hw0.2 hz)
        · obtain ⟨s3, o3⟩ := h3
          have w3 : sns w' 3 (pl Y t) = sns w 3 (pl Y t) := by
            rcases q3 with rfl | rfl
            · rfl
            · exact sns_sns (by decide)
          have hO : wOK Y (t + 1) (sns w' 3 (pl Y t)) := by rw [w3]; exact wS.1
          refine b_X12_named_49 hG (o3.gNN (q2.gNN P1)) ?_
          rw [nI_inc]
          refine ih (sns w' 3 (pl Y t)) μ3 (okM_w q1 o3 hO s3) (q2.trans (fG_W o3)) (Or.inr w3) ?_
          rw [f0, f8, lgc0, nm_inj (by decide) (by decide) hxo okn] at hc
          have : dpl (N[j] :: N.drop (j + 1)) (nm Y t) = true := by
            unfold dpl; rw [List.any_cons, hc]; simp
          rw [this, if_pos rfl] at q4
          rw [sns_sns (by decide), ← q4]
          split <;> rfl
    exact loop 0 (Nat.zero_le _) w μ1 h1 mO3.refl (Or.inl rfl) rfl
theorem d_X12_named (hG : gMM G) {μ : jM} (hP : gNN μ) {e : pF} (h : mB e μ) : jC0 l mX12_named 3 G [.ref 112] μ (pI fun v μ' => mB e μ' ∧ mO3 [] fG [] μ μ') := by
  refine jC0.of' (ls := [.ref 112, .null, .null]) rfl rfl rfl (fun _ _ => Nat.le_of_ble_eq_true rfl) ?_
  refine b_X12_named_0 hG hP (d_X12_must hG hP h _) ?_
  rintro μ1 ⟨h1, o1⟩
  have P1 := o1.gNN hP
  refine b_X12_named_10 hG P1 ?_
  exact b_X12_named_12 (ψ3 := fun _ => True) hG P1 (fun _ => ⟨h1, fG_F o1⟩) (fun _ _ => ⟨h1, fG_F o1⟩) (fun _ z => absurd z (mB_13 h1).1) (fun _ z => absurd z (mB_13 h1).1) (fun _ z => absurd z (mB_13 h1).1) (fun _ z => absurd z (mB_13 h1).1) (fun _ z => absurd z (mB_13 h1).1)
theorem u_named {α : Type} (hG : gMM G) {μ : jM} (hP : gNN μ) {Y : List Int32} (hY : Y.length ≤ 2000) {x : Except pF α} {tk : α → Nat} {ww : α → Nat × Nat} (h : uM Y x tk ww μ) {N : nL} (hN : nmM N μ) : jC0 l mX12_named 3 G [.ref 112] μ (pI fun v μ' => (∀ a, x = .ok a → v = nI (tk a)) ∧ uM Y (px x fun a => nwN Y (tk a) (ww a) N) (fun p => p.2.1) (fun p => p.2.2) μ' ∧ mO3 [] fG [] μ μ') := by
  cases x with
  | ok a =>
    refine (c_X12_named hG hP hY (show okM Y (tk a) (ww a) μ from h) hN).mono (pI_mono fun v μ' h' => ⟨fun b hb => (by cases hb; exact h'.1), ?_, h'.2.2⟩)
    rw [px_ok]
    have q := h'.2.1
    cases e : nwN Y (tk a) (ww a) N with
    | ok r => rw [e] at q; exact q
    | error f => rw [e] at q; exact q
  | error e => exact (d_X12_named hG hP h).mono (pI_mono fun v μ' h' => ⟨fun b hb => (by cases hb), h'⟩)
/-! a PLACE that is known -/
theorem c_X12_knownPlace (hG : gMM G) {μ : jM} (hP : gNN μ) {Y : List Int32} (hY : Y.length ≤ 2000) {t : Nat} {w : Nat × Nat} (h : okM Y t w μ) {N : nL} (hN : nmM N μ) : jC0 l mX12_knownPlace 3 G [.ref 112] μ (pI fun v μ' => pR (olP Y NON t w N) (fun r μ' => v = nI r.2.2 ∧ okM Y r.1 r.2.1 μ') mB μ' ∧ mO3 [] fG [] μ μ') := by
  refine jC0.of' (ls := [.ref 112, .null, .null]) rfl rfl rfl (fun _ _ => Nat.le_of_ble_eq_true rfl) ?_
  obtain ⟨a1, a2, a3, -, a5⟩ := u_at h
  refine b_X12_knownPlace_0 hG hP (u_must (x := (.ok t : Except pF Nat)) (tk := id) (ww := fun _ => w) hG hP h (k := 1) rfl (by decide)) ?_
  rintro μ1 ⟨h1, o1⟩
  have P1 := o1.gNN hP
  rw [a1]
  unfold olP
  rw [px_ok] at h1
  cases e : xpc Y 1 t with
  | error f =>
    rw [show xpc Y 1 (id t) = xpc Y 1 t from rfl, e] at h1
    have h1 : mB f μ1 := h1
    exact b_X12_knownPlace_10 hG P1 (fun z => absurd z (mB_13 h1).2.1) (fun _ => ⟨h1, fG_F o1⟩)
  | ok t1 =>
    rw [show xpc Y 1 (id t) = xpc Y 1 t from rfl, e] at h1
    have h1 : okM Y t1 w μ1 := h1
    obtain ⟨hk, rfl, h4⟩ := xpc_ok e
    refine b_X12_knownPlace_10 hG P1 (fun _ => ?_) (fun z => absurd (okM_13 h1).2.1 z)
    have hw0 := h.2.2.1
    have N1 := nmM_off hN o1
    have hp31 := pl_31 (i := t) hY
    have okn := nm_ok hk
    have hl := N1.1.1
    have wS := wOK_s (k := 4) hw0 (by omega) (by decide)
    have hfid := fnd_fid N (nm Y t) 0 N1.1.2.1
    rw [bd_ok]
    have f8 : μ1.2.1 118 (nI t).toNatClampNeg = lN (en 27 (nm Y t)) := by
      rw [nI_clamp (by omega), o1.g 118]; exact a5 hk
    have loop : ∀ j, j ≤ N.length → fnd (N.drop j) (nm Y t) = fnd N (nm Y t) → J l mX12_knownPlace (jZ0 3 G (pI fun v μ' => pR (.ok (t + 1, olW Y NON t w N, fid (plN N) (nm Y t) 0) : Except pF (Nat × (Nat × Nat) × Nat)) (fun r μ' => v = nI r.2.2 ∧ okM Y r.1 r.2.1 μ') mB μ' ∧ mO3 [] fG [] μ μ')) G 0 0 21 [.ref 112, .int (nI t), .int (nI j)] [] μ1 := by
      refine up_loop N.length ?_ (fun j hj ih => ?_)
      · intro q4
        have hle : μ1.1 112 20 ≤ nI N.length := by rw [N1.2.1]; exact nI_le (Nat.le_refl _) (by omega)
        rw [List.drop_eq_nil_of_le (Nat.le_refl _)] at q4
        have hfN : fid (plN N) (nm Y t) 0 = NON := by rw [← hfid, ← q4]; rfl
        refine b_X12_knownPlace_21 hG P1 (fun _ => c_X12_wrong (w := w) (k := 4) (p := pl Y t) hG P1 (okM_13 h1).1 h1.2.2.2.2.2 a2 (by rw [o1.c 116]; exact a3) hp31 (by decide) hw0.1 (fun z => Or.inl (hw0.2 z))) (fun _ μ2 h2 => ?_) (fun z => absurd hle z) (fun z => absurd hle z) (fun z => absurd hle z) (fun z => absurd hle z) (fun z => absurd hle z)
        obtain ⟨s2, o2⟩ := h2
        refine b_X12_knownPlace_73 hG (o2.gNN P1) ⟨⟨?_, ?_⟩, (fG_F o1).trans (fG_W o2)⟩
        · show (-1 : Int32) = nI (fid (plN N) (nm Y t) 0)
          rw [hfN]; exact nI_NON.symm
        · show okM Y (t + 1) (olW Y NON t w N) μ2
          unfold olW
          rw [if_pos hfN]
          exact okM_w h1 o2 wS.1 s2
      · intro q4
        have hle : ¬ μ1.1 112 20 ≤ nI j := by rw [N1.2.1]; exact nI_ge hj (by omega)
        have hx : N[j]? = some N[j] := List.getElem?_eq_getElem hj
        obtain ⟨x1, x2⟩ := N1.2.2 j _ hx
        obtain ⟨hxo, hx8⟩ := N1.1.2.2 _ (List.getElem_mem hj)
        have f0 : μ1.2.1 120 (nI j).toNatClampNeg = lN (en 27 (N[j]).1) := by rw [nI_clamp (by omega)]; exact x1
        have fa : μ1.1 121 (nI j).toNatClampNeg = nI (N[j]).2 := by rw [nI_clamp (by omega)]; exact x2
        have hdr : N.drop j = N[j] :: N.drop (j + 1) := List.drop_eq_getElem_cons hj
        rw [hdr, fnd_c] at q4
        refine b_X12_knownPlace_21 (ψ0 := fun _ => True) hG P1 (fun z => absurd z hle) (fun z => absurd z hle) (fun _ => vp_in_nI (by omega) (by decide)) (fun _ => vp_in_nI (by omega) (by decide)) (fun _ hc => ?_) (fun _ hc hn => ?_) (fun _ hc hn => ?_)
        · rw [f0, f8, lgc0, nm_inj (by decide) (by decide) hxo okn] at hc
          rw [nI_inc]
          rw [if_neg (fun z => hc z.1)] at q4
          exact ih q4
        · rw [fa] at hn
          have hN' : N[j].2 = NON := by
            rcases hx8 with z | z
            · exact z
            · exact absurd hn (nI_pos (by omega))
          rw [nI_inc]
          rw [if_neg (fun z => z.2 hN')] at q4
          exact ih q4
        · rw [f0, f8, lgc0, nm_inj (by decide) (by decide) hxo okn] at hc
          rw [fa] at hn
          have hN' : N[j].2 ≠ NON := fun z => hn (by rw [z, nI_NON]; decide)
          rw [if_pos ⟨hc, hN'⟩] at q4
          have hfv : fid (plN N) (nm Y t) 0 = N[j].2 := by rw [← hfid, ← q4]
          refine ⟨⟨?_, ?_⟩, fG_F o1⟩
          · show μ1.1 121 _ = nI (fid (plN N) (nm Y t) 0)
            rw [hfv]; exact fa
          · show okM Y (t + 1) (olW Y NON t w N) μ1
            unfold olW
            rw [if_neg (by rw [hfv]; exact hN'), if_neg (by rw [hfv]; exact hN')]
            exact h1
    exact loop 0 (Nat.zero_le _) rfl
theorem d_X12_knownPlace (hG : gMM G) {μ : jM} (hP : gNN μ) {e : pF} (h : mB e μ) : jC0 l mX12_knownPlace 3 G [.ref 112] μ (pI fun v μ' => mB e μ' ∧ mO3 [] fG [] μ μ') := by
  refine jC0.of' (ls := [.ref 112, .null, .null]) rfl rfl rfl (fun _ _ => Nat.le_of_ble_eq_true rfl) ?_
  refine b_X12_knownPlace_0 hG hP (d_X12_must hG hP h _) ?_
  rintro μ1 ⟨h1, o1⟩
  exact b_X12_knownPlace_10 hG (o1.gNN hP) (fun z => absurd z (mB_13 h1).2.1) (fun _ => ⟨h1, fG_F o1⟩)
theorem c_X12_otherThan (hG : gMM G) {μ : jM} (hP : gNN μ) {Y : List Int32} (hY : Y.length ≤ 2000) {t b : Nat} {w : Nat × Nat} (h : okM Y t w μ) {N : nL} (hN : nmM N μ) (hb : b = NON ∨ b < 8) : jC0 l mX12_otherThan 4 G [.ref 112, .int (nI b)] μ (pI fun v μ' => pR (olP Y b t w N) (fun r μ' => v = nI r.2.2 ∧ okM Y r.1 r.2.1 μ') mB μ' ∧ mO3 [] fG [] μ μ') := by
  refine jC0.of' (ls := [.ref 112, .int (nI b), .null, .null]) rfl rfl rfl (fun _ _ => Nat.le_of_ble_eq_true rfl) ?_
  obtain ⟨a1, a2, a3, -, a5⟩ := u_at h
  refine b_X12_otherThan_0 hG hP (c_X12_knownPlace hG hP hY h hN) ?_
  rintro v μ1 ⟨h1, o1⟩
  have P1 := o1.gNN hP
  rw [a1]
  unfold olP at h1 ⊢
  cases e : xpc Y 1 t with
  | error f =>
    rw [e] at h1
    have h1 : mB f μ1 := h1
    exact b_X12_otherThan_9 (ψ3 := fun _ => True) hG P1 (fun _ => ⟨h1, o1⟩) (fun z => absurd z (mB_13 h1).1) (fun z => absurd z (mB_13 h1).1) (fun z => absurd z (mB_13 h1).1) (fun z => absurd z (mB_13 h1).1)
  | ok t1 =>
    rw [e] at h1
    obtain ⟨hk, rfl, h4⟩ := xpc_ok e
    obtain ⟨hv, h1⟩ : v = nI (fid (plN N) (nm Y t) 0) ∧ okM Y (t + 1) (olW Y NON t w N) μ1 := h1
    have hfd : fid (plN N) (nm Y t) 0 = NON ∨ fid (plN N) (nm Y t) 0 < 8 := by
      have hq := fnd_fid N (nm Y t) 0 hN.1.2.1
      rw [← hq]
      have : ∀ M : nL, (∀ x ∈ M, x.2 = NON ∨ x.2 < 8) → fnd M (nm Y t) = NON ∨ fnd M (nm Y t) < 8 := by
        intro M
        induction M with
        | nil => intro _; exact Or.inl rfl
        | cons x M ih =>
          intro hM
          unfold fnd
          split
          · exact hM x List.mem_cons_self
          · exact ih (fun y hy => hM y (List.mem_cons_of_mem _ hy))
      exact this N (fun x hx => (hN.1.2.2 x hx).2)
    rw [bd_ok]
    have hneg : v < 0 ↔ fid (plN N) (nm Y t) 0 = NON := by
      rw [hv]
      rcases hfd with z | z
      · rw [z, nI_NON]; exact ⟨fun _ => rfl, fun _ => by decide⟩
      · exact ⟨fun q => absurd q (nI_pos (by omega)), fun q => by rw [q] at z; exact absurd z (by decide)⟩
    have same : ∀ (x y : Nat), (x = NON ∨ x < 8) → (y = NON ∨ y < 8) → (nI x = nI y ↔ x = y) := fun x y hx hy => by
      refine ⟨fun q => ?_, fun q => by rw [q]⟩
      rcases hx with rfl | hx
      · rcases hy with rfl | hy
        · rfl
        · rw [nI_NON] at q; exact absurd q.symm (nI_no1 (by omega))
      · rcases hy with rfl | hy
        · rw [nI_NON] at q; exact absurd q (nI_no1 (by omega))
        · exact (nI_eq (by omega) (by omega)).mp q
    have hw0 := h.2.2.1
    have hp31 := pl_31 (i := t) hY
    have wS := wOK_s (k := 3) hw0 (by omega) (by decide)
    have fin0 : olW Y b t w N = olW Y NON t w N → (pR (.ok (t + 1, olW Y b t w N, fid (plN N) (nm Y t) 0) : Except pF (Nat × (Nat × Nat) × Nat)) (fun r μ' => v = nI r.2.2 ∧ okM Y r.1 r.2.1 μ') mB μ1 ∧ mO3 [] fG [] μ μ1) := fun q => ⟨⟨hv, by rw [q]; exact h1⟩, o1⟩
    refine b_X12_otherThan_9 hG P1 (fun z => absurd (okM_13 h1).1 z) (fun _ hn => fin0 ?_) (fun _ hn hne => fin0 ?_) (fun _ hn he => c_X12_wrong (w := w) (k := 3) (p := pl Y t) hG P1 (okM_13 h1).1 ?_ a2 (by rw [o1.c 116]; exact a3) hp31 (by decide) hw0.1 (fun z => Or.inl (hw0.2 z))) (fun _ hn he μ2 h2 => ?_)
    · unfold olW; rw [if_pos (hneg.mp hn), if_pos (hneg.mp hn)]
    · rw [hv, same _ _ hfd hb] at hne
      have hnn : ¬ fid (plN N) (nm Y t) 0 = NON := fun q => hn (hneg.mpr q)
      unfold olW; rw [if_neg hnn, if_neg hne, if_neg hnn, if_neg hnn]
    · have hnn : ¬ fid (plN N) (nm Y t) 0 = NON := fun q => hn (hneg.mpr q)
      have : olW Y NON t w N = w := by unfold olW; rw [if_neg hnn, if_neg hnn]
      have q := h1.2.2.2.2.2
      rw [this] at q; exact q
    · obtain ⟨s2, o2⟩ := h2
      rw [hv, same _ _ hfd hb] at he
      have hnn : ¬ fid (plN N) (nm Y t) 0 = NON := fun q => hn (hneg.mpr q)
      refine b_X12_otherThan_32 hG (o2.gNN P1) ⟨⟨hv, ?_⟩, o1.trans (fG_W o2)⟩
      show okM Y (t + 1) (olW Y b t w N) μ2
      unfold olW
      rw [if_neg hnn, if_pos he]
      exact okM_w h1 o2 wS.1 s2
theorem d_X12_otherThan (hG : gMM G) {μ : jM} (hP : gNN μ) {e : pF} (h : mB e μ) (x : Int32) : jC0 l mX12_otherThan 4 G [.ref 112, .int x] μ (pI fun v μ' => mB e μ' ∧ mO3 [] fG [] μ μ') := by
  refine jC0.of' (ls := [.ref 112, .int x, .null, .null]) rfl rfl rfl (fun _ _ => Nat.le_of_ble_eq_true rfl) ?_
  refine b_X12_otherThan_0 hG hP (d_X12_knownPlace hG hP h) ?_
  rintro v μ1 ⟨h1, o1⟩
  exact b_X12_otherThan_9 (ψ3 := fun _ => True) hG (o1.gNN hP) (fun _ => ⟨h1, o1⟩) (fun z => absurd z (mB_13 h1).1) (fun z => absurd z (mB_13 h1).1) (fun z => absurd z (mB_13 h1).1) (fun z => absurd z (mB_13 h1).1)
theorem u_knowP {α : Type} (hG : gMM G) {μ : jM} (hP : gNN μ) {Y : List Int32} (hY : Y.length ≤ 2000) {x : Except pF α} {tk : α → Nat} {ww : α → Nat × Nat} (h : uM Y x tk ww μ) {N : nL} (hN : nmM N μ) : jC0 l mX12_knownPlace 3 G [.ref 112] μ (pI fun v μ' => (∀ p, (px x fun a => olP Y NON (tk a) (ww a) N) = .ok p → v = nI p.2.2.2) ∧ uM Y (px x fun a => olP Y NON (tk a) (ww a) N) (fun p => p.2.1) (fun p => p.2.2.1) μ' ∧ mO3 [] fG [] μ μ') := by
  cases x with
  | ok a =>
    refine (c_X12_knownPlace hG hP hY (show okM Y (tk a) (ww a) μ from h) hN).mono (pI_mono fun v μ' h' => ?_)
    rw [px_ok]
    have q := h'.1
    cases e : olP Y NON (tk a) (ww a) N with
    | ok r => rw [e] at q; exact ⟨fun p hp => (by cases hp; exact q.1), q.2, h'.2⟩
    | error f => rw [e] at q; exact ⟨fun p hp => (by cases hp), q, h'.2⟩
  | error e => exact (d_X12_knownPlace hG hP h).mono (pI_mono fun v μ' h' => ⟨fun b hb => (by cases hb), h'⟩)
theorem u_other {α : Type} (hG : gMM G) {μ : jM} (hP : gNN μ) {Y : List Int32} (hY : Y.length ≤ 2000) {x : Except pF α} {tk bb : α → Nat} {ww : α → Nat × Nat} (h : uM Y x tk ww μ) {N : nL} (hN : nmM N μ) {z : Int32} (hz : ∀ a, x = .ok a → z = nI (bb a) ∧ (bb a = NON ∨ bb a < 8)) : jC0 l mX12_otherThan 4 G [.ref 112, .int z] μ (pI fun v μ' => (∀ p, (px x fun a => olP Y (bb a) (tk a) (ww a) N) = .ok p → v = nI p.2.2.2) ∧ uM Y (px x fun a => olP Y (bb a) (tk a) (ww a) N) (fun p => p.2.1) (fun p => p.2.2.1) μ' ∧ mO3 [] fG [] μ μ') := by
  cases x with
  | ok a =>
    obtain ⟨rfl, hb⟩ := hz a rfl
    refine (c_X12_otherThan hG hP hY (show okM Y (tk a) (ww a) μ from h) hN hb).mono (pI_mono fun v μ' h' => ?_)
    rw [px_ok]
    have q := h'.1
    cases e : olP Y (bb a) (tk a) (ww a) N with
    | ok r => rw [e] at q; exact ⟨fun p hp => (by cases hp; exact q.1), q.2, h'.2⟩
    | error f => rw [e] at q; exact ⟨fun p hp => (by cases hp), q, h'.2⟩
  | error e => exact (d_X12_otherThan hG hP h z).mono (pI_mono fun v μ' h' => ⟨fun b hb => (by cases hb), h'⟩)
/-! numbers -/
theorem c_X12_bounded (hG : gMM G) {μ : jM} (hP : gNN μ) {Y : List Int32} (hY : Y.length ≤ 2000) {t lo hi : Nat} {w : Nat × Nat} (h : okM Y t w μ) (hlo : lo < 2 ^ 31) (hhi : hi < 2 ^ 31) : jC0 l mX12_bounded 2 G [.ref 112, .int (nI lo), .int (nI hi)] μ (pI fun v μ' => pR (nmb Y lo hi t w) (fun r μ' => v = nI r.2.2 ∧ okM Y r.1 r.2.1 μ') mB μ' ∧ mO3 [] fG [] μ μ') := by
  refine jC0.of' (ls := [.ref 112, .int (nI lo), .int (nI hi), .null]) rfl rfl rfl (fun _ _ => Nat.le_of_ble_eq_true rfl) ?_
  obtain ⟨a1, a2, a3, a4, -⟩ := u_at h
  refine b_X12_bounded_0 (ψ0 := fun _ => True) hG hP (fun z => absurd z (okM_13 h).2.2) (fun z => absurd z (okM_13 h).2.2) (fun _ => c_X12_is hG hP h (k := 2) rfl (by decide)) (fun _ v μ1 h1 => ?_)
  obtain ⟨rfl, rfl⟩ := h1
  unfold nmb xpc
  by_cases hk : kd Y t = 2
  · rw [if_pos hk, decide_eq_true hk]
    have hvl := vl_le hk
    have ev : μ1.1 117 (μ1.1 112 11).toNatClampNeg = nI (vl Y t) := by rw [a1, nI_clamp (by omega)]; exact a4 hk
    have hne : ¬ b01 true = 0 := by decide
    have hw0 := h.2.2.1
    have hp31 := pl_31 (i := t) hY
    have wS := wOK_s (k := 5) hw0 (by omega) (by decide)
    have onw : ∀ (μ2 : jM) (w' : Nat × Nat), mO3 [] fG [] μ1 μ2 → lexM μ2 Y → μ2.1 112 11 = nI t → μ2.1 112 13 = 0 → sM w' μ2 → wOK Y (t + 1) w' → nbW Y lo hi t w = w' → ∀ μ3, pR (tke Y t) (fun t' μ' => μ' = wI μ2 112 11 (nI t')) (fun e μ' => mB e μ' ∧ mO3 [] fF [] μ2 μ') μ3 → (pR (bd (tke Y t) fun t1 => (.ok (t1, nbW Y lo hi t w, vl Y t) : Except pF (Nat × (Nat × Nat) × Nat))) (fun r μ' => nI (vl Y t) = nI r.2.2 ∧ okM Y r.1 r.2.1 μ') mB μ3 ∧ mO3 [] fG [] μ1 μ3) := by
      intro μ2 w' o2 hl e11 e13 hs hwk hbw μ3 h3
      cases e : tke Y t with
      | ok t' =>
        rw [e] at h3
        have h3 : μ3 = wI μ2 112 11 (nI t') := h3
        obtain ⟨q1, q2, rfl⟩ := tke_w (by omega) h.2.1 hw0 e
        have o3 : mO3 [] [11] [] μ2 (wI μ2 112 11 (nI (t + 1))) := mO3_wF (by decide)
        rw [h3]
        refine ⟨⟨rfl, ?_⟩, o2.trans (o3.mono (by decide) (by decide) (by decide))⟩
        show okM Y (t + 1) (nbW Y lo hi t w) _
        rw [hbw]
        exact ⟨lexM_off hl o3, q1, hwk, wI_at, by rw [o3.f 13]; exact e13, sM_off hs o3⟩
      | error f =>
        rw [e] at h3
        exact ⟨h3.1, o2.trans (fG_F h3.2)⟩
    have gon : ∀ (μ2 : jM) (w' : Nat × Nat), lexM μ2 Y → μ2.1 112 11 = nI t → μ2.1 112 13 = 0 → sM w' μ2 → gNN μ2 → jC0 l mX12_goesOn 1 G [.ref 112] μ2 (pV (pR (tke Y t) (fun t' μ' => μ' = wI μ2 112 11 (nI t')) (fun e μ' => mB e μ' ∧ mO3 [] fF [] μ2 μ'))) := by
      intro μ2 w' hl e11 e13 hs P2
      refine jC0.of' (ls := [.ref 112]) rfl rfl rfl (fun _ _ => Nat.le_of_ble_eq_true rfl) ?_
      have e4 : μ2.1 112 11 = 400 ↔ t = 400 := by rw [e11]; exact nI_eq (b := 400) (by omega) (by decide)
      have cf : jC0 l mX12_fail 0 G [.ref 112, .int (nI 2)] μ2 (pV fun μ' => mB (2, pl Y t) μ' ∧ mO3 [] fF [] μ2 μ') := by
        refine jC0.of' (ls := [.ref 112, .int (nI 2)]) rfl rfl rfl (fun _ _ => Nat.le_of_ble_eq_true rfl) ?_
        have e1 : μ2.1 116 (μ2.1 112 11).toNatClampNeg = nI (pl Y t) := by rw [e11, nI_clamp (by omega)]; exact (hl t a2 h.2.1.2).2.1
        refine b_X12_fail_0 hG P2 (fun _ => by rw [e11]; exact vp_in_nI (by omega) (by decide)) (fun _ => ?_) (fun z => absurd (by rw [e13]; decide) z)
        rw [e1]
        refine ⟨⟨Or.inr rfl, ?_, wI_at, t, a2, ?_⟩, mO3.trans (μ1 := wI μ2 112 13 (nI 2)) (mO3_wF (by decide)) (mO3_wF (by decide))⟩
        · rw [wI_off' (by decide), wI_at]
        · rw [wI_off' (by decide), wI_off' (by decide)]; exact e11
      unfold tke
      by_cases ht : t = 400
      · rw [if_pos ht]
        refine b_X12_goesOn_0 hG P2 (fun z => absurd (e4.mpr ht) z) (fun _ => cf) (fun _ μ' h' => ?_)
        exact b_X12_goesOn_15 hG (h'.2.gNN P2) h'
      · rw [if_neg ht]
        refine b_X12_goesOn_0 (ψ1 := fun _ => True) hG P2 (fun _ => ?_) (fun z => absurd (e4.mp z) ht) (fun z => absurd (e4.mp z) ht)
        show _ = _
        rw [e11, nI_inc]
    have wr : jC0 l mX12_wrong 0 G [.ref 112, .int (nI 5), .int (μ1.1 112 11)] μ1 (pV fun μ' => sM (sns w 5 (pl Y t)) μ' ∧ mO3 [] [15, 16] [] μ1 μ') := by
      rw [a1]
      exact c_X12_wrong (w := w) (k := 5) (p := pl Y t) hG hP (okM_13 h).1 h.2.2.2.2.2 a2 a3 hp31 (by decide) hw0.1 (fun z => Or.inl (hw0.2 z))
    have hlex := h.1
    have aft : ∀ μ2, (sM (sns w 5 (pl Y t)) μ2 ∧ mO3 [] [15, 16] [] μ1 μ2) → nbW Y lo hi t w = sns w 5 (pl Y t) → J l mX12_bounded (jZ0 2 G (pI fun v μ' => pR (bd (tke Y t) fun t1 => (.ok (t1, nbW Y lo hi t w, vl Y t) : Except pF (Nat × (Nat × Nat) × Nat))) (fun r μ' => v = nI r.2.2 ∧ okM Y r.1 r.2.1 μ') mB μ' ∧ mO3 [] fG [] μ1 μ')) G 0 0 51 [.ref 112, .null, .null, .int (nI (vl Y t))] [] μ2 := by
      rintro μ2 ⟨s2, o2⟩ hbw
      have l2 := lexM_off hlex o2
      have e11 : μ2.1 112 11 = nI t := by rw [o2.f 11]; exact a1
      have e13 : μ2.1 112 13 = 0 := by rw [o2.f 13]; exact (okM_13 h).1
      refine b_X12_bounded_51 hG (o2.gNN hP) (gon μ2 _ l2 e11 e13 s2 (o2.gNN hP)) (fun μ3 h3 => ?_)
      have q := onw μ2 _ (fG_W o2) l2 e11 e13 s2 wS.1 hbw μ3 h3
      exact b_X12_bounded_55 hG (q.2.gNN hP) q
    refine b_X12_bounded_12 (ψ3 := fun _ => True) hG hP (fun _ => by rw [a1]; exact vp_in_nI (by omega) (by decide)) (fun _ _ => wr) (fun _ hlt μ2 h2 => ?_) (fun _ _ _ => gon μ1 w hlex a1 (okM_13 h).1 h.2.2.2.2.2 hP) (fun _ hlt hle μ3 h3 => ?_) (fun _ _ _ => wr) (fun _ hlt hle μ2 h2 => ?_) (fun z => absurd z hne) (fun z => absurd z hne)
    · rw [ev] at hlt ⊢
      refine aft μ2 h2 ?_
      unfold nbW
      rw [if_neg (fun q => by rw [nI_ltI (by omega) hlo] at hlt; omega)]
    · rw [ev] at hlt hle ⊢
      rw [nI_ltI (by omega) hlo] at hlt
      rw [nI_leI (by omega) hhi] at hle
      have q := onw μ1 w mO3.refl hlex a1 (okM_13 h).1 h.2.2.2.2.2 wS.2 (by unfold nbW; rw [if_pos ⟨by omega, hle⟩]) μ3 h3
      exact b_X12_bounded_55 hG (q.2.gNN hP) q
    · rw [ev] at hlt hle ⊢
      refine aft μ2 h2 ?_
      unfold nbW
      rw [if_neg (fun q => by rw [nI_leI (by omega) hhi] at hle; omega)]
  · rw [if_neg hk, decide_eq_false hk]
    refine b_X12_bounded_12 (ψ0 := fun _ => True) (ψ1 := fun _ => True) (ψ2 := fun _ => True) hG hP (fun z => absurd rfl z) (fun z => absurd rfl z) (fun z => absurd rfl z) (fun z => absurd rfl z) (fun z => absurd rfl z) (fun z => absurd rfl z) (fun z => absurd rfl z) (fun _ => c_X12_fail hG hP h (k := 1) rfl (Or.inl rfl)) (fun _ μ2 h2 => ?_)
    exact b_X12_bounded_20 hG (h2.2.gNN hP) ⟨h2.1, fG_F h2.2⟩
theorem d_X12_bounded (hG : gMM G) {μ : jM} (hP : gNN μ) {e : pF} (h : mB e μ) (x y : Int32) : jC0 l mX12_bounded 2 G [.ref 112, .int x, .int y] μ (pI fun v μ' => mB e μ' ∧ mO3 [] fG [] μ μ') := by
  refine jC0.of' (ls := [.ref 112, .int x, .int y, .null]) rfl rfl rfl (fun _ _ => Nat.le_of_ble_eq_true rfl) ?_
  refine b_X12_bounded_0 (ψ1 := fun _ _ => True) hG hP (fun _ => d_X12_fail hG hP h _) (fun _ μ1 h1 => ?_) (fun z => absurd (mB_13 h).2.2 z) (fun z => absurd (mB_13 h).2.2 z)
  subst h1
  exact b_X12_bounded_20 hG hP ⟨h, mO3.refl⟩
theorem u_bounded {α : Type} (hG : gMM G) {μ : jM} (hP : gNN μ) {Y : List Int32} (hY : Y.length ≤ 2000) {x : Except pF α} {tk : α → Nat} {ww : α → Nat × Nat} (h : uM Y x tk ww μ) {lo hi : Nat} {z1 z2 : Int32} (h1 : z1 = nI lo) (h2 : z2 = nI hi) (hlo : lo < 2 ^ 31) (hhi : hi < 2 ^ 31) : jC0 l mX12_bounded 2 G [.ref 112, .int z1, .int z2] μ (pI fun v μ' => (∀ p, (px x fun a => nmb Y lo hi (tk a) (ww a)) = .ok p → v = nI p.2.2.2) ∧ uM Y (px x fun a => nmb Y lo hi (tk a) (ww a)) (fun p => p.2.1) (fun p => p.2.2.1) μ' ∧ mO3 [] fG [] μ μ') := by
  subst h1; subst h2
  cases x with
  | ok a =>
    refine (c_X12_bounded hG hP hY (show okM Y (tk a) (ww a) μ from h) hlo hhi).mono (pI_mono fun v μ' h' => ?_)
    rw [px_ok]
    have q := h'.1
    cases e : nmb Y lo hi (tk a) (ww a) with
    | ok r => rw [e] at q; exact ⟨fun p hp => (by cases hp; exact q.1), q.2, h'.2⟩
    | error f => rw [e] at q; exact ⟨fun p hp => (by cases hp), q, h'.2⟩
  | error e => exact (d_X12_bounded hG hP h _ _).mono (pI_mono fun v μ' h' => ⟨fun b hb => (by cases hb), h'⟩)
/-! a word that may stand -/
theorem u_isTold {α : Type} (hG : gMM G) {μ : jM} (hP : gNN μ) {Y : List Int32} {x : Except pF α} {tk : α → Nat} {ww : α → Nat × Nat} (h : uM Y x tk ww μ) {k : Nat} {z : Int32} (hz : z = nI k) (hk : k = 22 ∨ k = 23) : jC0 l mX12_isTold 2 G [.ref 112, .int z] μ (pI fun v μ' => (∀ p, (px x fun a => opt Y k (tk a)) = .ok p → v = nI p.2.2) ∧ uM Y (px x fun a => opt Y k (tk a)) (fun p => p.2.1) (fun p => ww p.1) μ' ∧ mO3 [] fG [] μ μ') := by
  refine jC0.of' (ls := [.ref 112, .int z, .null]) rfl rfl rfl (fun _ _ => Nat.le_of_ble_eq_true rfl) ?_
  cases x with
  | error e =>
    have h : mB e μ := h
    exact b_X12_isTold_0 (ψ1 := fun _ => True) (ψ2 := fun _ _ => True) hG hP (fun _ _ => ⟨fun p hp => (by cases hp), h, mO3.refl⟩) (fun _ z => absurd rfl z) (fun _ z => absurd rfl z) (fun z => absurd z (mB_13 h).1) (fun z => absurd z (mB_13 h).1)
  | ok a =>
    have h : okM Y (tk a) (ww a) μ := h
    refine b_X12_isTold_0 (ψ1 := fun _ => True) hG hP (fun z => absurd (okM_13 h).1 z) (fun z => absurd (okM_13 h).1 z) (fun z => absurd (okM_13 h).1 z) (fun _ => c_X12_is hG hP h (k := k) hz (by omega)) (fun _ v μ1 h1 => ?_)
    obtain ⟨rfl, rfl⟩ := h1
    rw [px_ok]
    unfold opt
    by_cases e : kd Y (tk a) = k
    · rw [if_pos e, decide_eq_true e]
      have hne : ¬ b01 true = 0 := by decide
      refine b_X12_isTold_12 (ψ1 := fun _ => True) hG hP (fun z => absurd z hne) (fun z => absurd z hne) (fun z => absurd z hne) (fun _ z => absurd z (by decide)) (fun _ _ => c_X12_goesOn hG hP h) (fun _ _ μ2 h2 => ?_)
      have q : (∀ p, (bd (bd (tke Y (tk a)) fun t1 => (.ok (t1, 1) : Except pF (Nat × Nat))) fun b => (.ok (a, b) : Except pF (α × Nat × Nat))) = .ok p → (1 : Int32) = nI p.2.2) ∧ uM Y (bd (bd (tke Y (tk a)) fun t1 => (.ok (t1, 1) : Except pF (Nat × Nat))) fun b => (.ok (a, b) : Except pF (α × Nat × Nat))) (fun p => p.2.1) (fun p => ww p.1) μ2 ∧ mO3 [] fG [] μ1 μ2 := by
        cases e2 : tke Y (tk a) with
        | ok t' =>
          rw [e2] at h2
          have h2 : μ2 = wI μ1 112 11 (nI t') := h2
          obtain ⟨q1, q2, q3⟩ := tke_w (by omega) h.2.1 h.2.2.1 e2
          rw [h2]
          exact ⟨fun p hp => (by cases hp; rfl), okM_t h q1 q2, mO3_wF (by decide)⟩
        | error f => rw [e2] at h2; exact ⟨fun p hp => (by cases hp), h2.1, fG_F h2.2⟩
      exact b_X12_isTold_29 hG (q.2.2.gNN hP) q (Or.inr rfl)
    · rw [if_neg e, decide_eq_false e]
      exact b_X12_isTold_12 (ψ1 := fun _ => True) (ψ3 := fun _ => True) hG hP (fun _ _ => ⟨fun p hp => (by cases hp; rfl), h, mO3.refl⟩) (fun _ z => absurd rfl z) (fun _ z => absurd rfl z) (fun z => absurd rfl z) (fun z => absurd rfl z) (fun z => absurd rfl z)
/-- behind the last token of a telling: a NAME is known from here on -/
theorem u_ends {α : Type} (hG : gMM G) {μ : jM} (hP : gNN μ) {Y : List Int32} {x : Except pF α} {tk tok at' : α → Nat} {ww : α → Nat × Nat} (h : uM Y x tk ww μ) {N : nL} (hN : nmM N μ) {z1 z2 : Int32} (hz : ∀ a, x = .ok a → (z1 = nI (tok a) ∧ z2 = nI (at' a)) ∧ (tok a < tk a ∧ kd Y (tok a) = 1) ∧ (at' a = NON ∨ (at' a = (plN N).length ∧ at' a < 8)) ∧ N.length < 15) : jC0 l mX12_ends 3 G [.ref 112, .int z1, .int z2] μ (pV fun μ' => pR (px x fun a => xpc Y 4 (tk a)) (fun p μ' => okM Y p.2 (ww p.1) μ' ∧ nmM (N ++ [(nm Y (tok p.1), at' p.1)]) μ') mB μ' ∧ mO3 [121] (20 :: fG) [120] μ μ') := by
  refine jC0.of' (ls := [.ref 112, .int z1, .int z2]) rfl rfl rfl (fun _ _ => Nat.le_of_ble_eq_true rfl) ?_
  refine b_X12_ends_0 hG hP (u_must hG hP h (k := 4) rfl (by decide)) ?_
  rintro μ1 ⟨h1, o1⟩
  have P1 := o1.gNN hP
  have oo : mO3 [121] (20 :: fG) [120] μ μ1 := o1.mono (by decide) (by decide) (by decide)
  cases ex : (px x fun a => xpc Y 4 (tk a)) with
  | error f =>
    have h1 : mB f μ1 := pR_er h1 ex
    exact b_X12_ends_5 hG P1 (fun z => absurd z (mB_13 h1).2.1) (fun z => absurd z (mB_13 h1).2.1) (fun z => absurd z (mB_13 h1).2.1) (fun _ => ⟨h1, oo⟩)
  | ok p =>
    have h1 : okM Y p.2 (ww p.1) μ1 := pR_ok h1 ex
    obtain ⟨x1, x2⟩ := px_inv ex
    obtain ⟨⟨rfl, rfl⟩, ⟨t1, t2⟩, hat, h15⟩ := hz p.1 x1
    obtain ⟨k4, e4, h4⟩ := xpc_ok x2
    have h2 := h1.2.1.1
    have N1 := nmM_off hN o1
    have c1 : (nI (tok p.1)).toNatClampNeg = tok p.1 := nI_clamp (by omega)
    have c2 : (μ1.1 112 20).toNatClampNeg = N.length := by rw [N1.2.1]; exact nI_clamp (by omega)
    have e8 : μ1.2.1 118 (tok p.1) = lN (en 27 (nm Y (tok p.1))) := (h1.1 (tok p.1) (by omega) (fun j hj => h1.2.1.2 j (by omega))).2.2.2 t2
    refine b_X12_ends_5 hG P1 (fun _ => vp_in_nI (by omega) (by decide)) (fun _ => by rw [N1.2.1]; exact vp_in_nI h15 (by decide)) (fun _ => ?_) (fun z => absurd (okM_13 h1).2.1 z)
    rw [c1, c2, e8, N1.2.1, nI_inc]
    have o2 : mO3 [121] [20] [120] μ1 (wI (wI (wL μ1 120 N.length (lN (en 27 (nm Y (tok p.1))))) 121 N.length (nI (at' p.1))) 112 20 (nI (N.length + 1))) := ((mO3_wL (by decide)).trans (mO3_wC (by decide) (by decide))).trans (mO3_wF (by decide))
    refine ⟨⟨okM_off h1 o2, ⟨?_, ?_, ?_⟩, ?_, fun j y hj => ?_⟩, oo.trans (o2.mono (by decide) (by decide) (by decide))⟩
    · simp; omega
    · refine okN_app N 0 N1.1.2.1 ?_
      rcases hat with z | ⟨z, z'⟩
      · exact Or.inl z
      · exact Or.inr ⟨by rw [z, Nat.zero_add], NON_big (by omega)⟩
    · intro y hy
      rcases List.mem_append.mp hy with q | q
      · exact N1.1.2.2 y q
      · rw [List.mem_singleton] at q
        rw [q]
        exact ⟨nm_ok t2, by rcases hat with z | ⟨z, z'⟩; exact Or.inl z; exact Or.inr z'⟩
    · rw [wI_at]; simp
    · have e1 : (wI (wI (wL μ1 120 N.length (lN (en 27 (nm Y (tok p.1))))) 121 N.length (nI (at' p.1))) 112 20 (nI (N.length + 1))).2.1 120 = vp_updL (μ1.2.1 120) N.length (lN (en 27 (nm Y (tok p.1)))) := wL_eq
      rw [e1, wI_ne (by decide)]
      by_cases ej : j = N.length
      · subst ej
        rw [List.getElem?_append_right (Nat.le_refl _)] at hj
        simp at hj
        rw [updL_at, wI_at, ← hj]; exact ⟨rfl, rfl⟩
      · have hjl : j < N.length := by
          have := (List.getElem?_eq_some_iff.mp hj).1
          simp at this; omega
        rw [List.getElem?_append_left hjl] at hj
        rw [updL_ne ej, wI_off' ej]
        exact N1.2.2 j y hj
theorem u_roomFor (hG : gMM G) {μ : jM} (hP : gNN μ) {Y : List Int32} {t has most : Nat} {w : Nat × Nat} (h : okM Y t w μ) (hk : kd Y t ≠ 0 ∧ kd Y t ≠ 3) {z1 z2 : Int32} (h1 : z1 = nI has) (h2 : z2 = nI most) (hh : has < 2 ^ 31) (hm : most < 2 ^ 31) : jC0 l mX12_roomFor 2 G [.ref 112, .int z1, .int z2] μ (pV fun μ' => uM Y (if has = most then .error (2, pl Y t) else tke Y t) (fun t => t) (fun _ => w) μ' ∧ mO3 [] fF [] μ μ') := by
  subst h1; subst h2
  refine jC0.of' (ls := [.ref 112, .int (nI has), .int (nI most)]) rfl rfl rfl (fun _ _ => Nat.le_of_ble_eq_true rfl) ?_
  have e := nI_eq hh hm
  by_cases hc : has = most
  · rw [if_pos hc]
    refine b_X12_roomFor_0 (ψ1 := fun _ => True) hG hP (fun z => absurd (e.mpr hc) z) (fun z => absurd (e.mpr hc) z) (fun z => absurd (e.mpr hc) z) (fun _ => c_X12_fail hG hP h (k := 2) rfl (Or.inr rfl)) (fun _ μ1 h1 => ?_)
    exact b_X12_roomFor_10 (ψ1 := fun _ => True) hG (h1.2.gNN hP) (fun _ => h1) (fun z => absurd z (mB_13 h1.1).1) (fun z => absurd z (mB_13 h1.1).1)
  · rw [if_neg hc]
    refine b_X12_roomFor_0 (ψ2 := fun _ => True) hG hP (fun _ z => absurd (okM_13 h).1 z) (fun _ _ => c_X12_goesOn hG hP h) (fun _ _ μ1 h1 => ?_) (fun z => absurd (e.mp z) hc) (fun z => absurd (e.mp z) hc)
    have q : uM Y (tke Y t) (fun t => t) (fun _ => w) μ1 ∧ mO3 [] fF [] μ μ1 := by
      cases e2 : tke Y t with
      | ok t' =>
        rw [e2] at h1
        have h1 : μ1 = wI μ 112 11 (nI t') := h1
        obtain ⟨q1, q2, q3⟩ := tke_w hk h.2.1 h.2.2.1 e2
        rw [h1]
        exact ⟨okM_t h q1 q2, mO3_wF (by decide)⟩
      | error f => rw [e2] at h1; exact h1
    exact b_X12_roomFor_21 hG (q.2.gNN hP) q
end ParN
