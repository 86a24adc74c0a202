/-! THE REFERENCE reads an E: its loops -/
def fE : List Nat := [11, 12, 13, 14, 48, 52]
def eS (Y : List Int32) (w : Nat × Nat) (c0 t0 t d : Nat) (W : List Nat) (o : sE) (b : Nat) (μ : jM) : Prop := okM Y t w μ ∧ μ.1 112 12 = nI d ∧ xst c0 W o μ ∧ xI Y t0 t d W o b
def eB (c0 hi : Nat) (e : pF) (μ : jM) : Prop := mB e μ ∧ ∃ (W : List Nat) (o : sE) (d : Nat), xst c0 W o μ ∧ (∀ w ∈ W, wop w) ∧ c0 + o.length + opc W ≤ hi ∧ W.length ≤ 60 ∧ d ≤ 6 ∧ μ.1 112 12 = nI d
def eR (Y : List Int32) (w : Nat × Nat) (c0 : Nat) (r : Nat × sE) (μ : jM) : Prop := okM Y r.1 w μ ∧ μ.1 112 12 = 0 ∧ μ.1 112 48 = nI (c0 + r.2.length) ∧ seg (μ.1 146) (μ.1 147) c0 r.2
theorem xst_off {c0 : Nat} {W : List Nat} {o : sE} {F : List Nat} {μ μ' : jM} (h : xst c0 W o μ) (ho : mO3 [] F [] μ μ') (h1 : 48 ∉ F := by decide) (h2 : 52 ∉ F := by decide) : xst c0 W o μ' := by
  unfold xst at h ⊢
  rw [ho.f 52 h2, ho.f 48 h1, ho.c 148, ho.c 146, ho.c 147]; exact h
theorem mB_e {e : pF} {F : List Nat} {hi c0 : Nat} {μ μ' : jM} (h : mB e μ) (ho : eO F hi c0 μ μ') (h1 : 11 ∉ F := by decide) (h2 : 13 ∉ F := by decide) (h3 : 14 ∉ F := by decide) : mB e μ' := mB_off h ho.1 h1 h2 h3
section ParX
variable {l : Launch} {G : jG} {Y : List Int32} {w : Nat × Nat} {c0 t0 hi : Nat} {φ : jM → Prop}
theorem ex_bad23 (hG : gMM G) {μ : jM} (hP : gNN μ) {e : pF} (h : mB e μ) (K : J l mX12_expression (jZ0 3 G (pV φ)) G 0 0 29 [.ref 112, .int 0, .null] [.int 0] μ) : J l mX12_expression (jZ0 3 G (pV φ)) G 0 0 23 [.ref 112, .int 0, .null] [] μ := by
  refine b_X12_expression_23 hG hP (d_X12_is hG hP h _) (fun v μ1 h1 => ?_)
  obtain ⟨rfl, rfl⟩ := h1
  exact K
theorem opn_loop (hG : gMM G) {o : sE} : ∀ (n t d : Nat) (W : List Nat) (μ : jM), 7 ≤ n + d → gNN μ → eS Y w c0 t0 t d W o 0 μ → (∀ μ', pR (opn Y n t d W) (fun s μ' => eS Y w c0 t0 s.1 s.2.1 s.2.2 o 0 μ') mB μ' ∧ eO fE hi c0 μ μ' → J l mX12_expression (jZ0 3 G (pV φ)) G 0 0 29 [.ref 112, .int 0, .null] [.int 0] μ') → J l mX12_expression (jZ0 3 G (pV φ)) G 0 0 23 [.ref 112, .int 0, .null] [] μ := by
  intro n
  induction n with
  | zero => intro t d W μ hn _ hs _; have := hs.2.2.2.2.1; omega
  | succ n ih =>
    intro t d W μ hn hP hs K
    obtain ⟨h1, h2, h3, h4⟩ := id hs
    have hd6 := h4.2.1
    have hWl := (wW_len d W h4.2.2.1).1
    refine b_X12_expression_23 hG hP (c_X12_is hG hP h1 (k := 6) rfl (by decide)) (fun v μ1 hv => ?_)
    obtain ⟨rfl, rfl⟩ := hv
    have push : ∀ μ2 : jM, gNN μ2 → μ2.1 112 52 = nI W.length → J l mX12_expression (jZ0 3 G (pV φ)) G 0 0 23 [.ref 112, .int 0, .null] [] (wI (wI μ2 148 W.length 6) 112 52 (nI (W.length + 1))) → J l mX12_expression (jZ0 3 G (pV φ)) G 0 0 60 [.ref 112, .int 0, .null] [] μ2 := by
      intro μ2 P2 e5 KK
      refine b_X12_expression_60 hG P2 (by rw [e5]; exact vp_in_nI (by omega) (by decide)) ?_
      rw [e5, nI_clamp (by omega), nI_inc]; exact KK
    have pO : ∀ μ2 : jM, eO fE hi c0 μ2 (wI (wI μ2 148 W.length 6) 112 52 (nI (W.length + 1))) := fun μ2 => by
      refine ⟨(mO3_wC (by decide) (by decide)).trans (mO3_wF (by decide)), fun i _ => ?_⟩
      rw [wI_ne (by decide), wI_ne (by decide), wI_ne (by decide), wI_ne (by decide)]; exact ⟨rfl, rfl⟩
    have bad : ∀ (e : pF) (μ2 : jM), gNN μ2 → mB e μ2 → μ2.1 112 52 = nI W.length → eO fE hi c0 μ1 μ2 → opn Y (n + 1) t d W = .error e → J l mX12_expression (jZ0 3 G (pV φ)) G 0 0 60 [.ref 112, .int 0, .null] [] μ2 := by
      intro e μ2 P2 m2 e5 o2 hop
      refine push μ2 P2 e5 ?_
      have o3 := pO μ2
      have m3 : mB e (wI (wI μ2 148 W.length 6) 112 52 (nI (W.length + 1))) := mB_off m2 (mO3.trans (C := [148]) (F := [52]) (L := []) (mO3_wC (by decide) (by decide)) (mO3_wF (by decide)))
      refine ex_bad23 hG (o3.1.gNN P2) m3 (K _ ⟨?_, o2.trans o3⟩)
      rw [hop]; exact m3
    by_cases hk : kd Y t = 6
    · rw [decide_eq_true hk]
      have hne : ¬ b01 true = 0 := by decide
      by_cases hd : d = 6
      · have hop : opn Y (n + 1) t d W = .error (2, pl Y t) := by unfold opn; rw [if_pos hk, if_pos hd]
        have e6 : μ1.1 112 12 = 6 := by rw [h2, hd]; rfl
        refine b_X12_expression_29 (ψ0 := fun _ => True) (ψ1 := fun _ => True) hG hP (fun z => absurd z hne) (fun z => absurd z hne) (fun _ z => absurd e6 z) (fun _ z => absurd e6 z) (fun _ _ => c_X12_fail hG hP h1 (k := 2) rfl (Or.inr rfl)) (fun _ _ μ2 h2' => ?_)
        obtain ⟨m2, o2⟩ := h2'
        have P2 := o2.gNN hP
        have o3 : mO3 [] [12] [] μ2 (wI μ2 112 12 (μ2.1 112 12 + 1)) := mO3_wF (by decide)
        have m3 := mB_off m2 o3
        refine b_X12_expression_46 hG P2 (d_X12_goesOn hG (o3.gNN P2) m3) (fun μ4 h4' => ?_)
        obtain ⟨m4, o4⟩ := h4'
        have oo : mO3 [] (12 :: fF) [] μ1 μ4 := ((o2.mono (by decide) (by decide) (by decide)).trans (o3.mono (by decide) (by decide) (by decide))).trans (o4.mono (by decide) (by decide) (by decide))
        exact bad _ μ4 (oo.gNN hP) m4 (by rw [oo.f 52]; exact h3.1) (eO_3 oo (by decide)) hop
      · have hop : opn Y (n + 1) t d W = bd (tke Y t) fun t' => opn Y n t' (d + 1) (6 :: W) := by conv => lhs; unfold opn; rw [if_pos hk, if_neg hd]
        have e6 : ¬ μ1.1 112 12 = 6 := by rw [h2]; exact fun z => hd ((nI_eq (b := 6) (by omega) (by decide)).mp z)
        have o2 : mO3 [] [12] [] μ1 (wI μ1 112 12 (μ1.1 112 12 + 1)) := mO3_wF (by decide)
        have P2 := o2.gNN hP
        have k2 := okM_off h1 o2
        refine b_X12_expression_29 (ψ0 := fun _ => True) (ψ2 := fun _ => True) hG hP (fun z => absurd z hne) (fun z => absurd z hne) (fun _ _ => c_X12_goesOn hG P2 k2) (fun _ _ μ3 h3' => ?_) (fun _ z => absurd z e6) (fun _ z => absurd z e6)
        cases et : tke Y t with
        | error f =>
          rw [et] at h3'
          have oo : mO3 [] (12 :: fF) [] μ1 μ3 := (o2.mono (by decide) (by decide) (by decide)).trans (h3'.2.mono (by decide) (by decide) (by decide))
          exact bad f μ3 (oo.gNN hP) h3'.1 (by rw [oo.f 52]; exact h3.1) (eO_3 oo (by decide)) (by rw [hop, et]; rfl)
        | ok t' =>
          rw [et] at h3'
          have h3' : μ3 = wI (wI μ1 112 12 (μ1.1 112 12 + 1)) 112 11 (nI t') := h3'
          obtain ⟨q1, q2, rfl⟩ := tke_w (by omega) h1.2.1 h1.2.2.1 et
          obtain ⟨-, h400⟩ := tke_ok et
          have o3 : mO3 [] [11] [] (wI μ1 112 12 (μ1.1 112 12 + 1)) μ3 := by rw [h3']; exact mO3_wF (by decide)
          have oo : mO3 [] (12 :: fF) [] μ1 μ3 := (o2.mono (by decide) (by decide) (by decide)).trans (o3.mono (by decide) (by decide) (by decide))
          have k3 : okM Y (t + 1) w μ3 := by rw [h3']; exact okM_t k2 q1 q2
          have d3 : μ3.1 112 12 = nI (d + 1) := by rw [o3.f 12, wI_at, h2, nI_inc]
          have x3 : xst c0 W o μ3 := xst_off h3 oo
          have P3 := oo.gNN hP
          refine push μ3 P3 x3.1 ?_
          have o4 := pO μ3
          refine ih (t + 1) (d + 1) (6 :: W) _ (by omega) (o4.1.gNN P3) ⟨?_, ?_, ⟨?_, ⟨?_, ?_⟩, ?_, ?_⟩, xI_open h4 hk hd h400⟩ (fun μ5 h5 => K μ5 ⟨?_, ?_⟩)
          · exact okM_off k3 (mO3.trans (C := [148]) (F := [52]) (L := []) (mO3_wC (by decide) (by decide)) (mO3_wF (by decide)))
          · rw [wI_off' (by decide), wI_ne (by decide)]; exact d3
          · rw [wI_at]; rfl
          · rw [wI_ne (by decide), wI_at]; rfl
          · rw [wI_ne (by decide), wI_eq]; exact stW_upd W (Nat.le_refl _) x3.2.1
          · rw [wI_off' (by decide), wI_ne (by decide)]; exact x3.2.2.1
          · rw [wI_ne (by decide), wI_ne (by decide), wI_ne (by decide), wI_ne (by decide)]; exact x3.2.2.2
          · rw [hop, et, bd_ok]; exact h5.1
          · exact ((eO_3 oo (by decide)).trans o4).trans h5.2
    · rw [decide_eq_false hk]
      refine K μ1 ⟨?_, eO.refl⟩
      unfold opn
      rw [if_neg hk]; exact hs
theorem ex_bad (hG : gMM G) (h8 : hi ≤ 840) {μ : jM} (hP : gNN μ) {e : pF} (h : eB c0 hi e μ) (K : ∀ μ', mB e μ' ∧ eO fE hi c0 μ μ' → φ μ') : J l mX12_expression (jZ0 3 G (pV φ)) G 0 0 151 [.ref 112, .int 0, .null] [.int 0] μ := by
  obtain ⟨m0, W, o, d, x1, x2, x3, x4, hd6, x5⟩ := h
  have cO := c_X12_comesOut (l := l) (z := 0) (r := 1) hG hP (Or.inl ⟨rfl, rfl⟩) h8 x2 x1 x3 x4
  have fin : ∀ μ', (xst c0 (pw 1 W o).1 (pw 1 W o).2 μ' ∧ eO [48, 52] hi c0 μ μ') → J l mX12_expression (jZ0 3 G (pV φ)) G 0 0 209 [.null, .null, .null] [] μ' := fun μ' h' => b_X12_expression_209 hG (h'.2.1.gNN hP) (K μ' ⟨mB_e m0 h'.2, h'.2.mono (by decide) (Nat.le_refl _)⟩)
  have t1 : ¬ ((1 : Int32) = 0) := by decide
  refine b_X12_expression_151 (ψ0 := fun _ _ => True) (ψ1 := fun _ => True) (ψ2 := fun _ => True) hG hP (fun z => absurd rfl z) (fun z => absurd rfl z) (fun z => absurd rfl z) (fun z => absurd rfl z) (fun z => absurd rfl z) (fun z => absurd rfl z) (fun _ => d_X12_is hG hP m0 _) (fun _ v μ1 h1 => ?_)
  obtain ⟨rfl, rfl⟩ := h1
  refine b_X12_expression_160 (ψ0 := fun _ _ => True) (ψ1 := fun _ => True) (ψ2 := fun _ => True) hG hP (fun z => absurd rfl z) (fun z => absurd rfl z) (fun z => absurd rfl z) (fun z => absurd rfl z) (fun z => absurd rfl z) (fun z => absurd rfl z) (fun _ => d_X12_is hG hP m0 _) (fun _ v μ2 h2 => ?_)
  obtain ⟨rfl, rfl⟩ := h2
  refine b_X12_expression_169 (ψ0 := fun _ _ => True) (ψ1 := fun _ => True) (ψ2 := fun _ => True) hG hP (fun z => absurd rfl z) (fun z => absurd rfl z) (fun z => absurd rfl z) (fun z => absurd rfl z) (fun z => absurd rfl z) (fun z => absurd rfl z) (fun _ => d_X12_is hG hP m0 _) (fun _ v μ3 h3 => ?_)
  obtain ⟨rfl, rfl⟩ := h3
  refine b_X12_expression_178 (ψ0 := fun _ _ => True) (ψ3 := fun _ _ => True) (ψ4 := fun _ => True) (ψ5 := fun _ => True) hG hP (fun _ z => absurd rfl z) (fun _ z => absurd rfl z) (fun _ _ _ => cO) (fun _ _ _ μ' h' => fin μ' h') (fun _ _ _ => d_X12_fail hG hP m0 _) (fun _ _ _ μ' h' => ?_) (fun z => absurd rfl z) (fun z => absurd rfl z) (fun z => absurd rfl z) (fun z => absurd rfl z) (fun z => absurd rfl z) (fun z => absurd rfl z)
  subst h'
  exact b_X12_expression_204 hG hP cO (fun μ' h' => fin μ' h')
theorem cls_loop (hG : gMM G) (h8 : hi ≤ 840) (hB : c0 + 400 < hi + t0) : ∀ (n t d : Nat) (W : List Nat) (o : sE) (μ : jM), d < n → gNN μ → eS Y w c0 t0 t d W o 1 μ → (∀ (v : Int32) (μ' : jM), pR (cls Y n t d W o) (fun s μ' => eS Y w c0 t0 s.1 s.2.1 s.2.2.1 s.2.2.2 1 μ' ∧ v = b01 (decide (kd Y s.1 = 8))) (fun e μ' => eB c0 hi e μ' ∧ v = 0) μ' ∧ eO fE hi c0 μ μ' → J l mX12_expression (jZ0 3 G (pV φ)) G 0 0 151 [.ref 112, .int 0, .null] [.int v] μ') → J l mX12_expression (jZ0 3 G (pV φ)) G 0 0 96 [.ref 112, .int 0, .null] [] μ := by
  intro n
  induction n with
  | zero => intro t d W o μ hn; omega
  | succ n ih =>
    intro t d W o μ hn hP hs K
    obtain ⟨h1, h2, h3, h4⟩ := id hs
    have hd6 := h4.2.1
    have hWl := (wW_len d W h4.2.2.1).1
    have hbd := h4.2.2.2.2.2
    have ht400 := h4.1.1
    refine b_X12_expression_96 hG hP (c_X12_is hG hP h1 (k := 7) rfl (by decide)) (fun v μ1 hv => ?_)
    obtain ⟨rfl, rfl⟩ := hv
    have c8 := c_X12_is (l := l) hG hP h1 (k := 8) (x := 8) rfl (by decide)
    have stop : ¬ (kd Y t = 7 ∧ 0 < d) → ∀ (v : Int32) (μ' : jM), (v = b01 (decide (kd Y t = 8)) ∧ μ' = μ1) → J l mX12_expression (jZ0 3 G (pV φ)) G 0 0 151 [.ref 112, .int 0, .null] [.int v] μ' := by
      rintro hc v μ' ⟨rfl, rfl⟩
      refine K _ _ ⟨?_, eO.refl⟩
      unfold cls
      rw [if_neg hc]
      exact ⟨hs, rfl⟩
    by_cases hk : kd Y t = 7
    · rw [decide_eq_true hk]
      have hne : ¬ b01 true = 0 := by decide
      by_cases hd : 0 < d
      · have e0 : ¬ μ1.1 112 12 ≤ 0 := by rw [h2]; exact nI_nle hd (by omega)
        refine b_X12_expression_102 (ψ0 := fun _ _ => True) (ψ1 := fun _ _ => True) hG hP (fun z => absurd z hne) (fun z => absurd z hne) (fun _ z => absurd z e0) (fun _ z => absurd z e0) (fun _ _ => c_X12_comesOut (z := 0) (r := 1) (hi := hi) hG hP (Or.inl ⟨rfl, rfl⟩) h8 (wW_op d W h4.2.2.1) h3 (by omega) (by omega)) (fun _ _ μ2 h2' => ?_)
        obtain ⟨x2, o2⟩ := h2'
        have P2 := o2.1.gNN hP
        obtain ⟨d', R, hdd, e1, hR⟩ : ∃ d' R, d = d' + 1 ∧ (pw 1 W o).1 = 6 :: R ∧ wW d' R := by
          rcases pw1_W h4.2.2.1 o with ⟨q, -⟩ | q
          · omega
          · exact q
        have hlen := pw_len (r := 1) (Nat.le_refl _) W o
        rw [e1] at x2 hlen
        rw [opc_6] at hlen
        have e52 : μ2.1 112 52 - 1 = nI R.length := by rw [x2.1, List.length_cons]; exact nI_pred _
        have e12 : μ2.1 112 12 - 1 = nI d' := by rw [o2.1.f 12, h2, hdd]; exact nI_pred _
        have o3 : mO3 [] [52, 12] [] μ2 (wI (wI μ2 112 52 (μ2.1 112 52 - 1)) 112 12 (μ2.1 112 12 - 1)) := (mO3_wF (by decide)).trans (mO3_wF (by decide))
        have P3 := o3.gNN P2
        have k3 : okM Y t w (wI (wI μ2 112 52 (μ2.1 112 52 - 1)) 112 12 (μ2.1 112 12 - 1)) := okM_off (okM_off h1 o2.1) o3
        have x3 : xst c0 R (pw 1 W o).2 (wI (wI μ2 112 52 (μ2.1 112 52 - 1)) 112 12 (μ2.1 112 12 - 1)) := by
          obtain ⟨q1, q2, q3, q4⟩ := x2
          refine ⟨by rw [wI_off' (by decide), wI_at]; exact e52, by rw [wI_ne (by decide), wI_ne (by decide)]; exact q2.2, by rw [wI_off' (by decide), wI_off' (by decide)]; exact q3, ?_⟩
          rw [wI_ne (by decide), wI_ne (by decide), wI_ne (by decide), wI_ne (by decide)]; exact q4
        have d3 : (wI (wI μ2 112 52 (μ2.1 112 52 - 1)) 112 12 (μ2.1 112 12 - 1)).1 112 12 = nI d' := by rw [wI_at]; exact e12
        have oA : eO fE hi c0 μ1 (wI (wI μ2 112 52 (μ2.1 112 52 - 1)) 112 12 (μ2.1 112 12 - 1)) := (o2.mono (by decide) (Nat.le_refl _)).trans (eO_3 o3 (by decide))
        have hRl := (wW_len d' R hR).1
        have hcl : cls Y (n + 1) t d W o = bd (tke Y t) fun t' => cls Y n t' (d - 1) (pw 1 W o).1.tail (pw 1 W o).2 := by conv => lhs; unfold cls; rw [if_pos ⟨hk, hd⟩]
        refine b_X12_expression_118 hG P2 (c_X12_goesOn hG P3 k3) (fun μ4 h4' => ?_)
        cases et : tke Y t with
        | error f =>
          rw [et] at h4'
          have o4 := h4'.2
          have P4 := o4.gNN P3
          have m4 := h4'.1
          refine b_X12_expression_142 hG P4 ?_
          refine b_X12_expression_96 hG P4 (d_X12_is hG P4 m4 _) (fun v μ5 hv => ?_)
          obtain ⟨rfl, rfl⟩ := hv
          refine b_X12_expression_102 (ψ1 := fun _ _ => True) (ψ2 := fun _ => True) hG P4 (fun _ => d_X12_is hG P4 m4 _) (fun _ v μ6 hv => ?_) (fun z => absurd rfl z) (fun z => absurd rfl z) (fun z => absurd rfl z) (fun z => absurd rfl z)
          obtain ⟨rfl, rfl⟩ := hv
          refine K _ _ ⟨?_, oA.trans (eO_3 o4 (by decide))⟩
          rw [hcl, et]
          exact ⟨⟨m4, R, (pw 1 W o).2, d', xst_off x3 o4, wW_op d' R hR, by omega, by omega, by omega, by rw [o4.f 12]; exact d3⟩, rfl⟩
        | ok t' =>
          rw [et] at h4'
          have h4' : μ4 = _ := h4'
          obtain ⟨q1, q2, rfl⟩ := tke_w (by omega) h1.2.1 h1.2.2.1 et
          obtain ⟨-, h400⟩ := tke_ok et
          have o4 : mO3 [] [11] [] (wI (wI μ2 112 52 (μ2.1 112 52 - 1)) 112 12 (μ2.1 112 12 - 1)) μ4 := by rw [h4']; exact mO3_wF (by decide)
          have P4 := o4.gNN P3
          have k4 : okM Y (t + 1) w μ4 := by rw [h4']; exact okM_t k3 q1 q2
          have xc := (xI_close h4 hk hd h400).2
          rw [e1, List.tail_cons, show d - 1 = d' by omega] at xc
          refine b_X12_expression_142 hG P4 ?_
          refine ih (t + 1) d' R (pw 1 W o).2 μ4 (by omega) P4 ⟨k4, by rw [o4.f 12]; exact d3, xst_off x3 o4, xc⟩ (fun v μ' h' => K v μ' ⟨?_, (oA.trans (eO_3 o4 (by decide))).trans h'.2⟩)
          rw [hcl, et, bd_ok, e1, List.tail_cons, show d - 1 = d' by omega]
          exact h'.1
      · have hd0 : d = 0 := by omega
        have e0 : μ1.1 112 12 ≤ 0 := by rw [h2, hd0]; decide
        exact b_X12_expression_102 (ψ0 := fun _ _ => True) (ψ2 := fun _ => True) hG hP (fun z => absurd z hne) (fun z => absurd z hne) (fun _ _ => c8) (fun _ _ => stop (fun z => hd z.2)) (fun _ z => absurd e0 z) (fun _ z => absurd e0 z)
    · rw [decide_eq_false hk]
      exact b_X12_expression_102 (ψ1 := fun _ _ => True) (ψ2 := fun _ => True) hG hP (fun _ => c8) (fun _ => stop (fun z => hk z.1)) (fun z => absurd rfl z) (fun z => absurd rfl z) (fun z => absurd rfl z) (fun z => absurd rfl z)
/-- an operator comes -/
theorem ex_op (hG : gMM G) (h8 : hi ≤ 840) (hB : c0 + 400 < hi + t0) {t d : Nat} {W : List Nat} {o : sE} {μ : jM} (hP : gNN μ) (hs : eS Y w c0 t0 t d W o 1 μ) (hr : rnk (kd Y t) ≠ 0)
    (K : ∀ μ', pR (tke Y t) (fun t' μ' => eS Y w c0 t0 t' d (kd Y t :: (pw (rnk (kd Y t)) W o).1) (pw (rnk (kd Y t)) W o).2 0 μ') mB μ' ∧ eO fE hi c0 μ μ' → J l mX12_expression (jZ0 3 G (pV φ)) G 0 0 12 [.ref 112, .int 0, .int 1] [] μ') :
    J l mX12_expression (jZ0 3 G (pV φ)) G 0 0 217 [.ref 112, .int 0, .int 1] [.int (b01 (decide (kd Y t = 10))), .ref 112] μ := by
  obtain ⟨h1, h2, h3, h4⟩ := id hs
  have hd6 := h4.2.1
  have hWl := (wW_len d W h4.2.2.1).1
  have hbd := h4.2.2.2.2.2
  have ht400 := h4.1.1
  have hopk := rnk_op (show 1 ≤ rnk (kd Y t) by omega)
  obtain ⟨a1, -, -, -, -⟩ := u_at h1
  have cO : ∀ (z : Int32) (r : Nat), ((z = 0 ∧ r = 1) ∨ (z = 1 ∧ r = 2)) → jC0 l mX12_comesOut 1 G [.ref 112, .int z] μ (pV fun μ' => xst c0 (pw r W o).1 (pw r W o).2 μ' ∧ eO [48, 52] hi c0 μ μ') := fun z r hz => c_X12_comesOut hG hP hz h8 (wW_op d W h4.2.2.1) h3 (by omega) (by omega)
  have fin : ∀ (r : Nat) (μ' : jM), r = rnk (kd Y t) → (xst c0 (pw r W o).1 (pw r W o).2 μ' ∧ eO [48, 52] hi c0 μ μ') → J l mX12_expression (jZ0 3 G (pV φ)) G 0 0 237 [.ref 112, .int 0, .int 1] [] μ' := by
    rintro r μ2 rfl ⟨x2, o2⟩
    have P2 := o2.1.gNN hP
    have hl2 := wW_len d _ (wW_push h4.2.2.1 hr o)
    rw [List.length_cons] at hl2
    have k2 := okM_off h1 o2.1
    obtain ⟨b1, -, -, -, -⟩ := u_at k2
    have ek : μ2.1 115 (μ2.1 112 11).toNatClampNeg = nI (kd Y t) := by rw [b1, nI_clamp (by omega)]; exact (k2.1 t k2.2.1.1 k2.2.1.2).1
    have e52 := x2.1
    have c52 : (μ2.1 112 52).toNatClampNeg = (pw (rnk (kd Y t)) W o).1.length := by rw [e52]; exact nI_clamp (by omega)
    have o3 : mO3 [148] [52] [] μ2 (wI (wI μ2 148 (pw (rnk (kd Y t)) W o).1.length (nI (kd Y t))) 112 52 (nI ((pw (rnk (kd Y t)) W o).1.length + 1))) := (mO3_wC (by decide) (by decide)).trans (mO3_wF (by decide))
    have P3 := o3.gNN P2
    have k3 := okM_off k2 o3
    have oB : eO fE hi c0 μ2 (wI (wI μ2 148 (pw (rnk (kd Y t)) W o).1.length (nI (kd Y t))) 112 52 (nI ((pw (rnk (kd Y t)) W o).1.length + 1))) := by
      refine ⟨o3.mono (by decide) (by decide) (by decide), fun i _ => ?_⟩
      rw [o3.c 146, o3.c 147]; exact ⟨rfl, rfl⟩
    have x3 : xst c0 (kd Y t :: (pw (rnk (kd Y t)) W o).1) (pw (rnk (kd Y t)) W o).2 (wI (wI μ2 148 (pw (rnk (kd Y t)) W o).1.length (nI (kd Y t))) 112 52 (nI ((pw (rnk (kd Y t)) W o).1.length + 1))) := by
      obtain ⟨q1, q2, q3, q4⟩ := x2
      refine ⟨by rw [wI_at]; rfl, ⟨by rw [wI_ne (by decide), wI_at], ?_⟩, by rw [wI_off' (by decide), wI_ne (by decide)]; exact q3, ?_⟩
      · rw [wI_ne (by decide), wI_eq]; exact stW_upd _ (Nat.le_refl _) q2
      · rw [wI_ne (by decide), wI_ne (by decide), wI_ne (by decide), wI_ne (by decide)]; exact q4
    refine b_X12_expression_237 hG P2 (by rw [b1]; exact vp_in_nI (by omega) (by decide)) (by rw [e52]; exact vp_in_nI (by omega) (by decide)) (by rw [ek, c52, e52, nI_inc]; exact c_X12_goesOn hG P3 k3) (fun μ4 h4' => ?_)
    have P4 : gNN μ4 := by
      cases et : tke Y t with
      | error f => rw [et] at h4'; exact h4'.2.gNN P3
      | ok t' => rw [et] at h4'; have h4' : μ4 = _ := h4'; rw [h4']; exact gNN_of (μ := (wI (wI μ2 148 (pw (rnk (kd Y t)) W o).1.length (nI (kd Y t))) 112 52 (nI ((pw (rnk (kd Y t)) W o).1.length + 1)))) rfl P3
    refine b_X12_expression_269 hG P4 (K μ4 ?_)
    have oA : eO fE hi c0 μ (wI (wI μ2 148 (pw (rnk (kd Y t)) W o).1.length (nI (kd Y t))) 112 52 (nI ((pw (rnk (kd Y t)) W o).1.length + 1))) := (o2.mono (by decide) (Nat.le_refl _)).trans oB
    cases et : tke Y t with
    | error f => rw [et] at h4'; exact ⟨h4'.1, oA.trans (eO_3 h4'.2 (by decide))⟩
    | ok t' =>
      rw [et] at h4'
      have h4' : μ4 = _ := h4'
      obtain ⟨q1, q2, rfl⟩ := tke_w (by omega) h1.2.1 h1.2.2.1 et
      obtain ⟨-, h400⟩ := tke_ok et
      have o4 : mO3 [] [11] [] (wI (wI μ2 148 (pw (rnk (kd Y t)) W o).1.length (nI (kd Y t))) 112 52 (nI ((pw (rnk (kd Y t)) W o).1.length + 1))) μ4 := by rw [h4']; exact mO3_wF (by decide)
      refine ⟨⟨by rw [h4']; exact okM_t k3 q1 q2, ?_, xst_off x3 o4, xI_op h4 hr h400⟩, oA.trans (eO_3 o4 (by decide))⟩
      rw [o4.f 12, o3.f 12, o2.1.f 12]; exact h2
  have h10 : rnk 10 = 2 := by decide
  by_cases k10 : kd Y t = 10
  · rw [decide_eq_true k10]
    refine b_X12_expression_217 (ψ1 := fun _ _ => True) hG hP (fun _ => cO 1 2 (Or.inr ⟨rfl, rfl⟩)) (fun _ μ' h' => fin 2 μ' (by rw [k10]; rfl) h') (fun z => absurd z (by decide)) (fun z => absurd z (by decide))
  · rw [decide_eq_false k10]
    refine b_X12_expression_217 (ψ0 := fun _ => True) hG hP (fun z => absurd rfl z) (fun z => absurd rfl z) (fun _ => c_X12_is hG hP h1 (k := 15) rfl (by decide)) (fun _ v μ1 hv => ?_)
    obtain ⟨rfl, rfl⟩ := hv
    by_cases k15 : kd Y t = 15
    · rw [decide_eq_true k15]
      exact b_X12_expression_226 (ψ0 := fun _ => True) hG hP (fun z => absurd z (by decide)) (fun z => absurd z (by decide)) (fun _ => cO 1 2 (Or.inr ⟨rfl, rfl⟩)) (fun _ μ' h' => fin 2 μ' (by rw [k15]; rfl) h')
    · rw [decide_eq_false k15]
      refine b_X12_expression_226 (ψ1 := fun _ => True) hG hP (fun _ => cO 0 1 (Or.inl ⟨rfl, rfl⟩)) (fun _ μ' h' => fin 1 μ' ?_ h') (fun z => absurd rfl z) (fun z => absurd rfl z)
      unfold rnk; rw [if_pos (by omega)]
/-- behind a unit -/
theorem ex_tail (hG : gMM G) (h8 : hi ≤ 840) (hB : c0 + 400 < hi + t0) {t d : Nat} {W : List Nat} {o : sE} {μ : jM} (hP : gNN μ) (hs : eS Y w c0 t0 t d W o 1 μ)
    (K0 : rnk (kd Y t) = 0 → ∀ μ', pR (if 0 < d then .error (1, pl Y t) else .ok (t, (pw 1 W o).2)) (eR Y w c0) mB μ' ∧ eO fE hi c0 μ μ' → φ μ')
    (K1 : rnk (kd Y t) ≠ 0 → ∀ μ', pR (tke Y t) (fun t' μ' => eS Y w c0 t0 t' d (kd Y t :: (pw (rnk (kd Y t)) W o).1) (pw (rnk (kd Y t)) W o).2 0 μ') mB μ' ∧ eO fE hi c0 μ μ' → J l mX12_expression (jZ0 3 G (pV φ)) G 0 0 12 [.ref 112, .int 0, .int 1] [] μ') :
    J l mX12_expression (jZ0 3 G (pV φ)) G 0 0 151 [.ref 112, .int 0, .null] [.int (b01 (decide (kd Y t = 8)))] μ := by
  obtain ⟨h1, h2, h3, h4⟩ := id hs
  have hd6 := h4.2.1
  have hWl := (wW_len d W h4.2.2.1).1
  have hbd := h4.2.2.2.2.2
  have ht400 := h4.1.1
  have t1 : ¬ (1 : Int32) = 0 := by decide
  have ci : ∀ (k : Nat) (z : Int32), z = nI k → k < 43 → jC0 l mX12_is 0 G [.ref 112, .int z] μ (pI fun v μ' => v = b01 (decide (kd Y t = k)) ∧ μ' = μ) := fun k z hz hk => c_X12_is hG hP h1 hz (by omega)
  have op : rnk (kd Y t) ≠ 0 → ∀ (v : Int32) (μ' : jM), (v = b01 (decide (kd Y t = 10)) ∧ μ' = μ) → J l mX12_expression (jZ0 3 G (pV φ)) G 0 0 217 [.ref 112, .int 0, .int 1] [.int v, .ref 112] μ' := by
    rintro hr v μ' ⟨rfl, rfl⟩
    exact ex_op hG h8 hB hP hs hr (K1 hr)
  by_cases k8 : kd Y t = 8
  · rw [decide_eq_true k8]
    exact b_X12_expression_151 (ψ1 := fun _ => True) (ψ2 := fun _ => True) (ψ3 := fun _ _ => True) hG hP (fun _ _ => ci 10 10 rfl (by decide)) (fun _ _ => op (by rw [k8]; decide)) (fun _ z => absurd z t1) (fun _ z => absurd z t1) (fun _ z => absurd z t1) (fun _ z => absurd z t1) (fun z => absurd z (by decide)) (fun z => absurd z (by decide))
  rw [decide_eq_false k8]
  refine b_X12_expression_151 (ψ0 := fun _ _ => True) (ψ1 := fun _ => True) (ψ2 := fun _ => True) hG hP (fun z => absurd rfl z) (fun z => absurd rfl z) (fun z => absurd rfl z) (fun z => absurd rfl z) (fun z => absurd rfl z) (fun z => absurd rfl z) (fun _ => ci 9 9 rfl (by decide)) (fun _ v μ1 hv => ?_)
  obtain ⟨rfl, rfl⟩ := hv
  by_cases k9 : kd Y t = 9
  · rw [decide_eq_true k9]
    exact b_X12_expression_160 (ψ1 := fun _ => True) (ψ2 := fun _ => True) (ψ3 := fun _ _ => True) hG hP (fun _ _ => ci 10 10 rfl (by decide)) (fun _ _ => op (by rw [k9]; decide)) (fun _ z => absurd z t1) (fun _ z => absurd z t1) (fun _ z => absurd z t1) (fun _ z => absurd z t1) (fun z => absurd z (by decide)) (fun z => absurd z (by decide))
  rw [decide_eq_false k9]
  refine b_X12_expression_160 (ψ0 := fun _ _ => True) (ψ1 := fun _ => True) (ψ2 := fun _ => True) hG hP (fun z => absurd rfl z) (fun z => absurd rfl z) (fun z => absurd rfl z) (fun z => absurd rfl z) (fun z => absurd rfl z) (fun z => absurd rfl z) (fun _ => ci 10 10 rfl (by decide)) (fun _ v μ2 hv => ?_)
  obtain ⟨rfl, rfl⟩ := hv
  by_cases k10 : kd Y t = 10
  · rw [decide_eq_true k10]
    exact b_X12_expression_169 (ψ1 := fun _ => True) (ψ2 := fun _ => True) (ψ3 := fun _ _ => True) hG hP (fun _ _ => ci 10 10 rfl (by decide)) (fun _ _ => op (by rw [k10]; decide)) (fun _ z => absurd z t1) (fun _ z => absurd z t1) (fun _ z => absurd z t1) (fun _ z => absurd z t1) (fun z => absurd z (by decide)) (fun z => absurd z (by decide))
  rw [decide_eq_false k10]
  refine b_X12_expression_169 (ψ0 := fun _ _ => True) (ψ1 := fun _ => True) (ψ2 := fun _ => True) hG hP (fun z => absurd rfl z) (fun z => absurd rfl z) (fun z => absurd rfl z) (fun z => absurd rfl z) (fun z => absurd rfl z) (fun z => absurd rfl z) (fun _ => ci 15 15 rfl (by decide)) (fun _ v μ3 hv => ?_)
  obtain ⟨rfl, rfl⟩ := hv
  by_cases k15 : kd Y t = 15
  · rw [decide_eq_true k15]
    exact b_X12_expression_178 (ψ0 := fun _ _ => True) (ψ1 := fun _ => True) (ψ2 := fun _ => True) (ψ4 := fun _ => True) (ψ5 := fun _ => True) hG hP (fun z => absurd z (by decide)) (fun z => absurd z (by decide)) (fun z => absurd z (by decide)) (fun z => absurd z (by decide)) (fun z => absurd z (by decide)) (fun z => absurd z (by decide)) (fun _ _ => ci 10 10 rfl (by decide)) (fun _ _ => op (by rw [k15]; decide)) (fun _ z => absurd z t1) (fun _ z => absurd z t1) (fun _ z => absurd z t1) (fun _ z => absurd z t1)
  rw [decide_eq_false k15]
  have hr0 : rnk (kd Y t) = 0 := by unfold rnk; rw [if_neg (by omega), if_neg (by omega)]
  have cO : ∀ {μ' : jM}, gNN μ' → xst c0 W o μ' → jC0 l mX12_comesOut 1 G [.ref 112, .int 0] μ' (pV fun μ'' => xst c0 (pw 1 W o).1 (pw 1 W o).2 μ'' ∧ eO [48, 52] hi c0 μ' μ'') := fun P x => c_X12_comesOut hG P (Or.inl ⟨rfl, rfl⟩) h8 (wW_op d W h4.2.2.1) x (by omega) (by omega)
  refine b_X12_expression_178 (ψ0 := fun _ _ => True) (ψ3 := fun _ _ => True) (ψ4 := fun _ => True) (ψ5 := fun _ => True) hG hP (fun _ z => absurd rfl z) (fun _ z => absurd rfl z) (fun _ _ _ => cO hP h3) (fun _ _ hle μ' h' => ?_) (fun _ _ _ => c_X12_fail hG hP h1 (k := 1) rfl (Or.inl rfl)) (fun _ _ hle μ' h' => ?_) (fun z => absurd rfl z) (fun z => absurd rfl z) (fun z => absurd rfl z) (fun z => absurd rfl z) (fun z => absurd rfl z) (fun z => absurd rfl z)
  · have hd0 : d = 0 := by
      rw [h2] at hle
      by_cases q : d = 0
      · exact q
      · exact absurd hle (nI_nle (by omega) (by omega))
    subst hd0
    refine b_X12_expression_209 hG (h'.2.1.gNN hP) (K0 hr0 μ' ⟨?_, h'.2.mono (by decide) (Nat.le_refl _)⟩)
    rw [if_neg (by decide)]
    obtain ⟨e1, -, -, -⟩ := xI_end h4
    obtain ⟨x1, x2⟩ := h'
    exact ⟨okM_off h1 x2.1, by rw [x2.1.f 12]; exact h2, x1.2.2.1, x1.2.2.2⟩
  · have hd0 : 0 < d := by
      rw [h2] at hle
      by_cases q : d = 0
      · exact absurd (by rw [q]; decide) hle
      · omega
    obtain ⟨m1, o1⟩ := h'
    have P1 := o1.gNN hP
    refine b_X12_expression_204 hG P1 (cO P1 (xst_off h3 o1)) (fun μ'' h'' => ?_)
    refine b_X12_expression_209 hG (h''.2.1.gNN P1) (K0 hr0 μ'' ⟨?_, (eO_3 o1 (by decide)).trans (h''.2.mono (by decide) (Nat.le_refl _))⟩)
    rw [if_pos hd0]
    exact mB_e m1 h''.2
theorem ex_loop (hG : gMM G) (h8 : hi ≤ 840) (hB : c0 + 400 < hi + t0) : ∀ (n t d : Nat) (W : List Nat) (o : sE) (μ : jM), 401 ≤ n + t → gNN μ → eS Y w c0 t0 t d W o 0 μ → (∀ μ', pR (exL Y n t d W o) (eR Y w c0) mB μ' ∧ eO fE hi c0 μ μ' → φ μ') → J l mX12_expression (jZ0 3 G (pV φ)) G 0 0 23 [.ref 112, .int 0, .null] [] μ := by
  intro n
  induction n with
  | zero => intro t d W o μ hn _ hs _; have := hs.2.2.2.1.1; omega
  | succ n ih =>
    intro t d W o μ hn hP hs K
    refine opn_loop (hi := hi) hG 7 t d W μ (by omega) hP hs (fun μ1 h1 => ?_)
    obtain ⟨h1, o1⟩ := h1
    have P1 := o1.1.gNN hP
    unfold exL un1 at K
    cases e : opn Y 7 t d W with
    | error f =>
      rw [e] at h1 K
      have h1 : mB f μ1 := h1
      refine b_X12_expression_29 (ψ1 := fun _ => True) (ψ2 := fun _ => True) hG P1 (fun _ => d_X12_unit hG P1 h1) (fun _ μ2 h2 => ?_) (fun z => absurd rfl z) (fun z => absurd rfl z) (fun z => absurd rfl z) (fun z => absurd rfl z)
      subst h2
      exact b_X12_expression_88 hG P1 (fun z => absurd z (mB_13 h1).2.1) (fun _ => K _ ⟨h1, o1⟩)
    | ok s =>
      rw [e] at h1
      have h1 : eS Y w c0 t0 s.1 s.2.1 s.2.2 o 0 μ1 := h1
      obtain ⟨k1, k2, k3, k4⟩ := id h1
      have hbd := k4.2.2.2.2.2
      have ht400 := k4.1.1
      obtain ⟨-, htle⟩ := opn_ok 7 t d W s hs.2.2.2 e
      rw [e] at K
      refine b_X12_expression_29 (ψ1 := fun _ => True) (ψ2 := fun _ => True) hG P1 (fun _ => c_X12_unit (c0 := c0) (hi := hi) hG P1 k1 k3.2.2.1 (by omega) (by omega) h8) (fun _ μ2 h2 => ?_) (fun z => absurd rfl z) (fun z => absurd rfl z) (fun z => absurd rfl z) (fun z => absurd rfl z)
      obtain ⟨h2, o2⟩ := h2
      have P2 := o2.1.gNN P1
      have o2' : eO fE hi c0 μ1 μ2 := o2.mono (by decide) (Nat.le_refl _)
      cases eu : unt Y s.1 with
      | error f =>
        rw [eu] at h2
        have h2 : mB f μ2 := h2
        refine b_X12_expression_88 hG P2 (fun z => absurd z (mB_13 h2).2.1) (fun _ => K _ ⟨?_, o1.trans o2'⟩)
        rw [bd_ok, eu]; exact h2
      | ok u =>
        rw [eu] at h2
        have h2 : μ2 = wI (emM μ1 (c0 + o.length) u.2.1 u.2.2) 112 11 (nI u.1) := h2
        obtain ⟨xu, htu⟩ := unt_ok k4 eu
        have hu1 : u.1 = s.1 + 1 ∧ kd Y s.1 ≠ 0 := by
          unfold unt at eu
          split at eu
          next hk =>
            obtain ⟨t', e1, e2⟩ := bd_inv eu
            obtain ⟨rfl, -⟩ := tke_ok e1
            cases e2; exact ⟨rfl, by omega⟩
          next =>
            split at eu
            next hk =>
              obtain ⟨t', e1, e2⟩ := bd_inv eu
              obtain ⟨rfl, -⟩ := tke_ok e1
              cases e2; exact ⟨rfl, by omega⟩
            next => cases eu
        have oe : mO3 [146, 147, 148] [48] [] μ1 (emM μ1 (c0 + o.length) u.2.1 u.2.2) := (em_off (c0 := c0) (hi := hi) (by omega) (by omega)).1
        have ke := okM_off k1 oe
        have ow : mO3 [] [11] [] (emM μ1 (c0 + o.length) u.2.1 u.2.2) μ2 := by rw [h2]; exact mO3_wF (by decide)
        have kk : okM Y u.1 w μ2 := by
          rw [h2]
          refine okM_t ke xu.1 ?_
          rw [hu1.1]; exact (wOK_s (k := 3) k1.2.2.1 hu1.2 (by decide)).2
        have s2 : eS Y w c0 t0 u.1 s.2.1 s.2.2 (o ++ [u.2]) 1 μ2 := ⟨kk, by rw [ow.f 12, oe.f 12]; exact k2, xst_off (em_xst k3) ow, xu⟩
        refine b_X12_expression_88 hG P2 (fun _ => ?_) (fun z => absurd (okM_13 kk).2.1 z)
        refine cls_loop hG h8 hB 7 u.1 s.2.1 s.2.2 (o ++ [u.2]) μ2 (by have := k4.2.1; omega) P2 s2 (fun v μ3 h3 => ?_)
        obtain ⟨h3, o3⟩ := h3
        have P3 := o3.1.gNN P2
        have oo := (o1.trans o2').trans o3
        cases ec : cls Y 7 u.1 s.2.1 s.2.2 (o ++ [u.2]) with
        | error f =>
          rw [ec] at h3
          obtain ⟨h3, rfl⟩ : eB c0 hi f μ3 ∧ v = 0 := h3
          refine ex_bad hG h8 P3 h3 (fun μ4 h4 => K μ4 ⟨?_, oo.trans h4.2⟩)
          rw [bd_ok, eu, bd_ok, ec]; exact h4.1
        | ok q =>
          rw [ec] at h3
          obtain ⟨h3, rfl⟩ : eS Y w c0 t0 q.1 q.2.1 q.2.2.1 q.2.2.2 1 μ3 ∧ v = b01 (decide (kd Y q.1 = 8)) := h3
          obtain ⟨-, hq⟩ := cls_ok 7 u.1 s.2.1 s.2.2 (o ++ [u.2]) q xu ec
          refine ex_tail hG h8 hB P3 h3 (fun hr μ4 h4 => K μ4 ⟨?_, oo.trans h4.2⟩) (fun hr μ4 h4 => ?_)
          · rw [bd_ok, eu, bd_ok, ec, bd_ok, if_pos hr]; exact h4.1
          · obtain ⟨h4, o4⟩ := h4
            have P4 := o4.1.gNN P3
            cases et : tke Y q.1 with
            | error f =>
              rw [et] at h4
              have h4 : mB f μ4 := h4
              refine b_X12_expression_12 hG P4 (fun z => absurd z (by decide)) (fun _ _ => K μ4 ⟨?_, oo.trans o4⟩) (fun _ z => absurd z (mB_13 h4).1)
              rw [bd_ok, eu, bd_ok, ec, bd_ok, if_neg hr, et]; exact h4
            | ok t' =>
              rw [et] at h4
              have h4 : eS Y w c0 t0 t' q.2.1 (kd Y q.1 :: (pw (rnk (kd Y q.1)) q.2.2.1 q.2.2.2).1) (pw (rnk (kd Y q.1)) q.2.2.1 q.2.2.2).2 0 μ4 := h4
              obtain ⟨ht', -⟩ := tke_ok et
              refine b_X12_expression_12 hG P4 (fun z => absurd z (by decide)) (fun _ z => absurd (okM_13 h4.1).1 z) (fun _ _ => ?_)
              refine ih t' _ _ _ μ4 (by omega) P4 h4 (fun μ5 h5 => K μ5 ⟨?_, (oo.trans o4).trans h5.2⟩)
              rw [bd_ok, eu, bd_ok, ec, bd_ok, if_neg hr, et, bd_ok]; exact h5.1
theorem c_X12_expression (hG : gMM G) (h8 : hi ≤ 840) {t : Nat} (hB : c0 + 400 < hi + t) {μ : jM} (hP : gNN μ) (h : okM Y t w μ) (h12 : μ.1 112 12 = 0) (hc : μ.1 112 48 = nI c0) : jC0 l mX12_expression 3 G [.ref 112] μ (pV fun μ' => pR (exS Y t) (eR Y w c0) mB μ' ∧ eO fE hi c0 μ μ') := by
  refine jC0.of' (ls := [.ref 112, .null, .null]) rfl rfl rfl (fun _ _ => Nat.le_of_ble_eq_true rfl) ?_
  refine b_X12_expression_0 hG hP ?_
  rw [h12]
  have o1 : mO3 [] [52] [] μ (wI μ 112 52 0) := mO3_wF (by decide)
  have P1 := o1.gNN hP
  have k1 := okM_off h o1
  refine b_X12_expression_12 hG P1 (fun z => absurd z (by decide)) (fun _ z => absurd (okM_13 k1).1 z) (fun _ _ => ?_)
  refine ex_loop hG h8 hB 401 t 0 [] [] _ (by omega) P1 ⟨k1, by rw [o1.f 12]; exact h12, ⟨wI_at, trivial, by rw [wI_off' (by decide)]; exact hc, fun j q hj => by simp at hj⟩, xI_0 h.2.1.1 h.2.1.2⟩ (fun μ2 h2 => ⟨h2.1, (eO_3 o1 (by decide)).trans h2.2⟩)
theorem d_X12_expression (hG : gMM G) {μ : jM} (hP : gNN μ) {e : pF} (h : mB e μ) : jC0 l mX12_expression 3 G [.ref 112] μ (pV fun μ' => mB e μ' ∧ eO fE hi c0 μ μ') := by
  refine jC0.of' (ls := [.ref 112, .null, .null]) rfl rfl rfl (fun _ _ => Nat.le_of_ble_eq_true rfl) ?_
  refine b_X12_expression_0 hG hP ?_
  have o1 : mO3 [] [52] [] μ (wI μ 112 52 0) := mO3_wF (by decide)
  have m1 := mB_off h o1
  exact b_X12_expression_12 hG (o1.gNN hP) (fun z => absurd z (by decide)) (fun _ _ => ⟨m1, eO_3 o1 (by decide)⟩) (fun _ z => absurd z (mB_13 m1).1)
end ParX
