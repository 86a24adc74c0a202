/-! THE REFERENCE reads an E -/
def stW (f : Nat → Int32) : List Nat → Prop
  | [] => True
  | w :: W => f W.length = nI w ∧ stW f W
theorem stW_upd {f : Nat → Int32} {i : Nat} {x : Int32} : ∀ (W : List Nat), W.length ≤ i → stW f W → stW (upd f i x) W := by
  intro W
  induction W with
  | nil => intro _ _; trivial
  | cons w W ih =>
    intro hi h
    rw [List.length_cons] at hi
    exact ⟨by rw [upd_ne (by omega)]; exact h.1, ih (by omega) h.2⟩
def wop (w : Nat) : Prop := w = 6 ∨ w = 8 ∨ w = 9 ∨ w = 10 ∨ w = 15
theorem sgm_op {S : List Nat} (h : sgm S) : ∀ w ∈ S, wop w := by
  intro w hw
  unfold wop
  rcases h with rfl | ⟨a, rfl, h⟩ | ⟨a, b, rfl, h1, h2⟩
  · cases hw
  · rw [List.mem_singleton] at hw; omega
  · rcases List.mem_cons.mp hw with rfl | hw
    · omega
    · rw [List.mem_singleton] at hw; omega
theorem wW_op : ∀ (d : Nat) (W : List Nat), wW d W → ∀ w ∈ W, wop w := by
  intro d
  induction d with
  | zero => intro W h; exact sgm_op h
  | succ d ih =>
    intro W h w hw
    obtain ⟨S, R, rfl, hS, hR⟩ := h
    rcases List.mem_append.mp hw with q | q
    · exact sgm_op hS w q
    · rcases List.mem_cons.mp q with rfl | q
      · exact Or.inl rfl
      · exact ih R hR w q
/-- all but the codes from c0 on, below hi -/
def eO (F : List Nat) (hi c0 : Nat) (μ μ' : jM) : Prop := mO3 [146, 147, 148] F [] μ μ' ∧ ∀ i, (i < c0 ∨ hi ≤ i) → μ'.1 146 i = μ.1 146 i ∧ μ'.1 147 i = μ.1 147 i
theorem eO.refl {F : List Nat} {hi c0 : Nat} {μ : jM} : eO F hi c0 μ μ := ⟨mO3.refl, fun _ _ => ⟨rfl, rfl⟩⟩
theorem eO.trans {F : List Nat} {hi c0 : Nat} {μ μ1 μ2 : jM} (h1 : eO F hi c0 μ μ1) (h2 : eO F hi c0 μ1 μ2) : eO F hi c0 μ μ2 := ⟨h1.1.trans h2.1, fun i h => ⟨(h2.2 i h).1.trans (h1.2 i h).1, (h2.2 i h).2.trans (h1.2 i h).2⟩⟩
theorem eO.mono {F F' : List Nat} {hi c0 c1 : Nat} {μ μ' : jM} (h : eO F hi c1 μ μ') (hF : ∀ f ∈ F, f ∈ F') (hc : c0 ≤ c1) : eO F' hi c0 μ μ' := ⟨h.1.mono (fun _ z => z) hF (fun _ z => z), fun i hi' => h.2 i (by omega)⟩
theorem eO_3 {F F' : List Nat} {hi c0 : Nat} {μ μ' : jM} (h : mO3 [] F [] μ μ') (hF : ∀ f ∈ F, f ∈ F') : eO F' hi c0 μ μ' := ⟨h.mono (by decide) hF (by decide), fun i _ => by rw [h.c 146, h.c 147]; exact ⟨rfl, rfl⟩⟩
def emM (μ : jM) (c k : Nat) (x : Int32) : jM := wI (wI (wI μ 146 c (nI k)) 147 c x) 112 48 (nI (c + 1))
theorem em_off {μ : jM} {c k hi c0 : Nat} {x : Int32} (h0 : c0 ≤ c) (h1 : c < hi) : eO [48] hi c0 μ (emM μ c k x) := by
  refine ⟨((mO3_wC (by decide) (by decide)).trans (mO3_wC (by decide) (by decide))).trans (mO3_wF (by decide)), fun i hi' => ?_⟩
  unfold emM
  rw [wI_ne (by decide), wI_ne (by decide), wI_off' (by omega), wI_ne (by decide), wI_off' (by omega), wI_ne (by decide)]
  exact ⟨rfl, rfl⟩
/-- what waits, what came out -/
def xst (c0 : Nat) (W : List Nat) (o : sE) (μ : jM) : Prop := μ.1 112 52 = nI W.length ∧ stW (μ.1 148) W ∧ μ.1 112 48 = nI (c0 + o.length) ∧ seg (μ.1 146) (μ.1 147) c0 o
theorem em_seg {μ : jM} {c0 k : Nat} {o : sE} {x : Int32} (h : seg (μ.1 146) (μ.1 147) c0 o) : seg ((emM μ (c0 + o.length) k x).1 146) ((emM μ (c0 + o.length) k x).1 147) c0 (o ++ [(k, x)]) := by
  intro j q hj
  have e6 : (emM μ (c0 + o.length) k x).1 146 = upd (μ.1 146) (c0 + o.length) (nI k) := by unfold emM; rw [wI_ne (by decide), wI_ne (by decide), wI_eq]
  have e7 : (emM μ (c0 + o.length) k x).1 147 = upd (μ.1 147) (c0 + o.length) x := by unfold emM; rw [wI_ne (by decide), wI_eq, wI_ne (by decide)]
  rw [e6, e7]
  by_cases e : j = o.length
  · subst e
    rw [List.getElem?_append_right (Nat.le_refl _)] at hj
    simp at hj
    rw [upd_at, upd_at, ← hj]; exact ⟨rfl, rfl⟩
  · have hl : j < o.length := by
      have := (List.getElem?_eq_some_iff.mp hj).1
      simp at this; omega
    rw [List.getElem?_append_left hl] at hj
    rw [upd_ne (by omega), upd_ne (by omega)]
    exact h j q hj
theorem em_xst {μ : jM} {c0 k : Nat} {W : List Nat} {o : sE} {x : Int32} (h : xst c0 W o μ) : xst c0 W (o ++ [(k, x)]) (emM μ (c0 + o.length) k x) := by
  obtain ⟨h1, h2, h3, h4⟩ := h
  refine ⟨?_, ?_, ?_, em_seg h4⟩
  · unfold emM; rw [wI_off' (by decide), wI_ne (by decide), wI_ne (by decide)]; exact h1
  · unfold emM; rw [wI_ne (by decide), wI_ne (by decide), wI_ne (by decide)]; exact h2
  · unfold emM; rw [wI_at]; congr 1; simp; omega
section ParE
variable {l : Launch} {G : jG}
theorem c_X12_emit (hG : gMM G) {μ : jM} (hP : gNN μ) {c k : Nat} (hc : μ.1 112 48 = nI c) (h8 : c < 840) {z : Int32} (hz : z = nI k) (x : Int32) : jC0 l mX12_emit 0 G [.ref 112, .int z, .int x] μ (pV fun μ' => μ' = emM μ c k x) := by
  subst hz
  refine jC0.of' (ls := [.ref 112, .int (nI k), .int x]) rfl rfl rfl (fun _ _ => Nat.le_of_ble_eq_true rfl) ?_
  refine b_X12_emit_0 hG hP (by rw [hc]; exact vp_in_nI h8 (by decide)) ?_
  show _ = _
  rw [hc, nI_clamp (by omega), nI_inc]; rfl
theorem comes_loop (hG : gMM G) {c0 hi r : Nat} {z : Int32} (hz : (z = 0 ∧ r = 1) ∨ (z = 1 ∧ r = 2)) (hhi : hi ≤ 840) {φ : jM → Prop} : ∀ (W : List Nat) (o : sE) (μ : jM), gNN μ → (∀ w ∈ W, wop w) → xst c0 W o μ → c0 + o.length + opc W ≤ hi → W.length ≤ 60 → (∀ μ', xst c0 (pw r W o).1 (pw r W o).2 μ' ∧ eO [48, 52] hi c0 μ μ' → φ μ') → J l mX12_comesOut (jZ0 1 G (pV φ)) G 0 0 0 [.ref 112, .int z, .null] [] μ := by
  intro W
  induction W with
  | nil =>
    intro o μ hP _ hx _ _ K
    have h0 : μ.1 112 52 ≤ 0 := by rw [hx.1]; decide
    exact b_X12_comesOut_0 hG hP (fun _ => K μ ⟨hx, eO.refl⟩) (fun h => absurd h0 h) (fun h => absurd h0 h) (fun h => absurd h0 h) (fun h => absurd h0 h) (fun h => absurd h0 h) (fun h => absurd h0 h)
  | cons w W ih =>
    intro o μ hP hop hx hb h60 K
    rw [List.length_cons] at h60
    have hw := hop w List.mem_cons_self
    have hn : ¬ μ.1 112 52 ≤ 0 := by rw [hx.1, List.length_cons]; exact nI_nle (by omega) (by omega)
    have e1 : μ.1 112 52 - 1 = nI W.length := by rw [hx.1, List.length_cons]; exact nI_pred _
    have ew : μ.1 148 (μ.1 112 52 - 1).toNatClampNeg = nI w := by rw [e1, nI_clamp (by omega)]; exact hx.2.1.1
    have w31 : w < 2 ^ 31 := by unfold wop at hw; omega
    have i6 : nI w = 6 ↔ w = 6 := nI_eq (b := 6) w31 (by decide)
    have i8 : nI w = 8 ↔ w = 8 := nI_eq (b := 8) w31 (by decide)
    have i9 : nI w = 9 ↔ w = 9 := nI_eq (b := 9) w31 (by decide)
    have i10 : nI w = 10 ↔ w = 10 := nI_eq (b := 10) w31 (by decide)
    have stay : ¬ r ≤ rnk w → φ μ := fun h => K μ ⟨by unfold pw; rw [if_neg h]; exact hx, eO.refl⟩
    have go : w ≠ 6 → r ≤ rnk w → J l mX12_comesOut (jZ0 1 G (pV φ)) G 0 0 42 [.ref 112, .int z, .int (nI w)] [] μ := by
      intro h6 hr
      have hopc : opc (w :: W) = opc W + 1 := opc_c h6
      have o0 : mO3 [] [52] [] μ (wI μ 112 52 (μ.1 112 52 - 1)) := mO3_wF (by decide)
      have P1 := o0.gNN hP
      have x1 : xst c0 W o (wI μ 112 52 (μ.1 112 52 - 1)) := by
        obtain ⟨h1, h2, h3, h4⟩ := hx
        refine ⟨by rw [wI_at]; exact e1, by rw [wI_ne (by decide)]; exact h2.2, by rw [wI_off' (by decide)]; exact h3, ?_⟩
        rw [wI_ne (by decide), wI_ne (by decide)]; exact h4
      have fin : ∀ (k : Nat) (zz : Int32), zz = nI k → k = opw w → J l mX12_comesOut (jZ0 1 G (pV φ)) G 0 0 84 [.ref 112, .int z, .null] [.int zz, .ref 112] (wI μ 112 52 (μ.1 112 52 - 1)) := by
        intro k zz hzz hk
        subst hk
        refine b_X12_comesOut_84 hG P1 (c_X12_emit hG P1 x1.2.2.1 (by omega) hzz 0) (fun μ2 h2 => ?_)
        subst h2
        have o2 : eO [48] hi c0 (wI μ 112 52 (μ.1 112 52 - 1)) (emM (wI μ 112 52 (μ.1 112 52 - 1)) (c0 + o.length) (opw w) 0) := em_off (by omega) (by omega)
        have P2 := o2.1.gNN P1
        refine b_X12_comesOut_88 hG P2 ?_
        refine ih (o ++ [(opw w, 0)]) _ P2 (fun v hv => hop v (List.mem_cons_of_mem _ hv)) (em_xst x1) (by simp; omega) (by omega) (fun μ3 h3 => K μ3 ⟨?_, ?_⟩)
        · unfold pw; rw [if_pos hr]; exact h3.1
        · exact ((eO_3 o0 (by decide)).trans (o2.mono (by decide) (Nat.le_refl _))).trans h3.2
      refine b_X12_comesOut_42 hG hP (fun n8 n9 n10 => ?_) (fun n8 n9 y10 => ?_) (fun n8 y9 => ?_) (fun y8 => ?_)
      · rw [i8] at n8; rw [i9] at n9; rw [i10] at n10
        refine fin 5 5 rfl ?_
        unfold opw; rw [if_neg n8, if_neg n9, if_neg n10]
      · rw [i10] at y10; subst y10; exact fin 4 4 rfl rfl
      · rw [i9] at y9; subst y9; exact fin 3 3 rfl rfl
      · rw [i8] at y8; subst y8; exact fin 2 2 rfl rfl
    refine b_X12_comesOut_0 hG hP (fun h => absurd h hn) (fun _ => by rw [e1]; exact vp_in_nI (by omega) (by decide)) (fun _ h => ?_) (fun _ h hz0 => ?_) (fun _ h hz0 h8 => ?_) (fun _ h hz0 h8 h9 => ?_) (fun _ h hz0 h8 h9 => ?_)
    · rw [ew, i6] at h
      subst h
      exact b_X12_comesOut_41 hG hP (stay (by unfold rnk; simp; omega))
    · rw [ew, i6] at h
      rw [ew]
      refine go h ?_
      rcases hz with ⟨-, rfl⟩ | ⟨q, -⟩
      · unfold wop at hw
        rcases hw with rfl | rfl | rfl | rfl | rfl
        · exact absurd rfl h
        all_goals decide
      · rw [q] at hz0; exact absurd hz0 (by decide)
    · rw [ew, i8] at h8
      subst h8
      refine b_X12_comesOut_41 hG hP (stay ?_)
      rcases hz with ⟨q, -⟩ | ⟨-, rfl⟩
      · exact absurd q hz0
      · decide
    · rw [ew, i6] at h; rw [ew, i8] at h8; rw [ew, i9] at h9
      rw [ew]
      refine go h ?_
      rcases hz with ⟨q, -⟩ | ⟨-, rfl⟩
      · exact absurd q hz0
      · unfold wop at hw
        rcases hw with rfl | rfl | rfl | rfl | rfl
        · exact absurd rfl h
        · exact absurd rfl h8
        · exact absurd rfl h9
        all_goals decide
    · rw [ew, i9] at h9
      subst h9
      refine b_X12_comesOut_41 hG hP (stay ?_)
      rcases hz with ⟨q, -⟩ | ⟨-, rfl⟩
      · exact absurd q hz0
      · decide
theorem c_X12_comesOut (hG : gMM G) {μ : jM} (hP : gNN μ) {c0 hi r : Nat} {z : Int32} {W : List Nat} {o : sE} (hz : (z = 0 ∧ r = 1) ∨ (z = 1 ∧ r = 2)) (hhi : hi ≤ 840) (hop : ∀ w ∈ W, wop w) (hx : xst c0 W o μ) (hb : c0 + o.length + opc W ≤ hi) (h60 : W.length ≤ 60) : jC0 l mX12_comesOut 1 G [.ref 112, .int z] μ (pV fun μ' => xst c0 (pw r W o).1 (pw r W o).2 μ' ∧ eO [48, 52] hi c0 μ μ') :=
  jC0.of' (ls := [.ref 112, .int z, .null]) rfl rfl rfl (fun _ _ => Nat.le_of_ble_eq_true rfl) (comes_loop hG hz hhi W o μ hP hop hx hb h60 (fun _ h => h))
/-- an INT or a VAR -/
theorem c_X12_unit (hG : gMM G) {μ : jM} (hP : gNN μ) {Y : List Int32} {t : Nat} {w : Nat × Nat} (h : okM Y t w μ) {c hi c0 : Nat} (hc : μ.1 112 48 = nI c) (h0 : c0 ≤ c) (h1 : c < hi) (h8 : hi ≤ 840) : jC0 l mX12_unit 2 G [.ref 112] μ (pV fun μ' => pR (unt Y t) (fun u μ' => μ' = wI (emM μ c u.2.1 u.2.2) 112 11 (nI u.1)) mB μ' ∧ eO (48 :: fF) hi c0 μ μ') := by
  refine jC0.of' (ls := [.ref 112]) rfl rfl rfl (fun _ _ => Nat.le_of_ble_eq_true rfl) ?_
  obtain ⟨a1, a2, a3, a4, -⟩ := u_at h
  have ek : μ.1 115 (μ.1 112 11).toNatClampNeg = nI (kd Y t) := by rw [a1, nI_clamp (by omega)]; exact (h.1 t h.2.1.1 h.2.1.2).1
  have hk43 := kd_in (Y := Y) (i := t)
  refine b_X12_unit_0 hG hP (c_X12_is hG hP h (k := 2) rfl (by decide)) (fun v μ1 h1' => ?_)
  obtain ⟨rfl, rfl⟩ := h1'
  have after : ∀ (k : Nat) (x : Int32) (μ3 : jM), kd Y t ≠ 0 ∧ kd Y t ≠ 3 → pR (tke Y t) (fun t' μ' => μ' = wI (emM μ1 c k x) 112 11 (nI t')) (fun e μ' => mB e μ' ∧ mO3 [] fF [] (emM μ1 c k x) μ') μ3 → (pR (bd (tke Y t) fun t' => (.ok (t', (k, x)) : Except pF (Nat × (Nat × Int32)))) (fun u μ' => μ' = wI (emM μ1 c u.2.1 u.2.2) 112 11 (nI u.1)) mB μ3 ∧ eO (48 :: fF) hi c0 μ1 μ3) := by
    intro k x μ3 hk h3
    have o1 : eO (48 :: fF) hi c0 μ1 (emM μ1 c k x) := (em_off h0 h1).mono (by decide) (Nat.le_refl _)
    cases e : tke Y t with
    | ok t' =>
      rw [e] at h3
      have h3 : μ3 = wI (emM μ1 c k x) 112 11 (nI t') := h3
      rw [h3]
      exact ⟨rfl, o1.trans (eO_3 (mO3_wF (F := [11]) (by decide)) (by decide))⟩
    | error f =>
      rw [e] at h3
      exact ⟨h3.1, o1.trans (eO_3 h3.2 (by decide))⟩
  have eko : ∀ (k : Nat) (x : Int32), okM Y t w (emM μ1 c k x) := fun k x => okM_off h (em_off (c0 := c) (hi := c + 1) (Nat.le_refl _) (by omega)).1
  have Pe : ∀ (k : Nat) (x : Int32), gNN (emM μ1 c k x) := fun k x => (em_off (c0 := c) (hi := c + 1) (Nat.le_refl _) (by omega)).1.gNN hP
  unfold unt
  by_cases k2 : kd Y t = 2
  · rw [if_pos k2, decide_eq_true k2]
    have hne : ¬ b01 true = 0 := by decide
    have ev : μ1.1 117 (μ1.1 112 11).toNatClampNeg = nI (vl Y t) := by rw [a1, nI_clamp (by omega)]; exact a4 k2
    refine b_X12_unit_5 (ψ0 := fun _ => True) (ψ1 := fun _ => True) (ψ2 := fun _ => True) (ψ3 := fun _ => True) hG hP (fun z => absurd z hne) (fun z => absurd z hne) (fun z => absurd z hne) (fun z => absurd z hne) (fun z => absurd z hne) (fun z => absurd z hne) (fun z => absurd z hne) (fun z => absurd z hne) (fun z => absurd z hne) (fun _ => by rw [a1]; exact vp_in_nI (by omega) (by decide)) (fun _ => c_X12_emit hG hP hc (by omega) (k := 0) rfl _) (fun _ μ2 h2 => ?_)
    subst h2
    rw [ev]
    refine b_X12_unit_22 hG (Pe _ _) (c_X12_goesOn hG (Pe _ _) (eko _ _)) (fun μ3 h3 => ?_)
    have q := after 0 (nI (vl Y t)) μ3 (by omega) h3
    exact b_X12_unit_26 hG (q.2.1.gNN hP) q
  · rw [if_neg k2, decide_eq_false k2]
    by_cases k34 : 34 ≤ kd Y t
    · rw [if_pos k34]
      have hlt : ¬ μ1.1 115 (μ1.1 112 11).toNatClampNeg < 34 := by rw [ek]; exact nI_nlt (b := 34) k34 (by omega)
      have hgt : ¬ 42 < μ1.1 115 (μ1.1 112 11).toNatClampNeg := by rw [ek]; exact nI_nlt (a := 42) (by omega) (by decide)
      have ex : μ1.1 115 (μ1.1 112 11).toNatClampNeg - 34 = nI (kd Y t - 34) := by rw [ek]; exact nI_subN (b := 34) k34
      refine b_X12_unit_5 (ψ0 := fun _ => True) (ψ1 := fun _ => True) (ψ2 := fun _ => True) (ψ4 := fun _ => True) hG hP (fun _ z => absurd (okM_13 h).1 z) (fun _ z => absurd (okM_13 h).1 z) (fun _ _ => by rw [a1]; exact vp_in_nI (by omega) (by decide)) (fun _ _ z => absurd z hlt) (fun _ _ z => absurd z hlt) (fun _ _ _ z => absurd z hgt) (fun _ _ _ z => absurd z hgt) (fun _ _ _ _ => c_X12_emit hG hP hc (by omega) (k := 1) rfl _) (fun _ _ _ _ μ2 h2 => ?_) (fun z => absurd rfl z) (fun z => absurd rfl z) (fun z => absurd rfl z)
      subst h2
      rw [ex]
      refine b_X12_unit_81 hG (Pe _ _) (c_X12_goesOn hG (Pe _ _) (eko _ _)) (fun μ3 h3 => ?_)
      have q := after 1 (nI (kd Y t - 34)) μ3 (by omega) h3
      exact b_X12_unit_85 hG (q.2.1.gNN hP) q
    · rw [if_neg k34]
      have hlt : μ1.1 115 (μ1.1 112 11).toNatClampNeg < 34 := by rw [ek]; exact nI_lt (b := 34) (by omega) (by decide)
      refine b_X12_unit_5 (ψ0 := fun _ => True) (ψ2 := fun _ => True) (ψ3 := fun _ => True) (ψ4 := fun _ => True) hG hP (fun _ z => absurd (okM_13 h).1 z) (fun _ z => absurd (okM_13 h).1 z) (fun _ _ => by rw [a1]; exact vp_in_nI (by omega) (by decide)) (fun _ _ _ => c_X12_fail hG hP h (k := 1) rfl (Or.inl rfl)) (fun _ _ _ μ2 h2 => ?_) (fun _ _ z => absurd hlt z) (fun _ _ z => absurd hlt z) (fun _ _ z => absurd hlt z) (fun _ _ z => absurd hlt z) (fun z => absurd rfl z) (fun z => absurd rfl z) (fun z => absurd rfl z)
      exact b_X12_unit_93 hG (h2.2.gNN hP) ⟨h2.1, eO_3 h2.2 (by decide)⟩
theorem d_X12_unit (hG : gMM G) {μ : jM} (hP : gNN μ) {e : pF} (h : mB e μ) : jC0 l mX12_unit 2 G [.ref 112] μ (pV fun μ' => μ' = μ) := by
  refine jC0.of' (ls := [.ref 112]) rfl rfl rfl (fun _ _ => Nat.le_of_ble_eq_true rfl) ?_
  refine b_X12_unit_0 hG hP (d_X12_is hG hP h _) (fun v μ1 h1 => ?_)
  obtain ⟨rfl, rfl⟩ := h1
  have h13 := (mB_13 h).1
  refine b_X12_unit_5 (ψ1 := fun _ => True) (ψ2 := fun _ => True) (ψ3 := fun _ => True) (ψ4 := fun _ => True) hG hP (fun _ _ => d_X12_fail hG hP h _) (fun _ _ μ2 h2 => ?_) (fun _ z => absurd z h13) (fun _ z => absurd z h13) (fun _ z => absurd z h13) (fun _ z => absurd z h13) (fun _ z => absurd z h13) (fun _ z => absurd z h13) (fun _ z => absurd z h13) (fun z => absurd rfl z) (fun z => absurd rfl z) (fun z => absurd rfl z)
  exact b_X12_unit_93 hG (by rw [h2]; exact hP) h2
end ParE
