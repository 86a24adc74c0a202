/-! THE CLASS reads an E -/
def uA (u0 : Nat → Bool) (o : sE) : Nat → Bool := fun i => u0 i || uE o i
theorem uE_app {a b : sE} {i : Nat} : uE (a ++ b) i = (uE a i || uE b i) := by unfold uE; rw [List.any_append]
theorem uE_pw {r : Nat} : ∀ (W : List Nat) (o : sE), uE (pw r W o).2 = uE o := by
  intro W
  induction W with
  | nil => intro o; rfl
  | cons x W ih =>
    intro o
    unfold pw
    split
    · rw [ih]
      funext i
      rw [uE_app]
      have hi := opw_in x
      have : uE [(opw x, 0)] i = false := by
        unfold uE
        simp only [List.any_cons, List.any_nil, Bool.or_false]
        rw [show (opw x == 1) = false from by simp; omega]; rfl
      rw [this, Bool.or_false]
    · rfl
theorem uA_pw {u0 : Nat → Bool} {r : Nat} {W : List Nat} {o : sE} : uA u0 (pw r W o).2 = uA u0 o := by unfold uA; rw [uE_pw]
theorem uA_0 {u0 : Nat → Bool} {o : sE} {x : Int32} : uA u0 (o ++ [(0, x)]) = uA u0 o := by
  funext i
  unfold uA
  rw [uE_app]
  have : uE [(0, x)] i = false := by unfold uE; simp
  rw [this, Bool.or_false]
theorem uA_1 {u0 : Nat → Bool} {o : sE} {k : Nat} (hk : k < 9) : uA u0 (o ++ [(1, nI k)]) = uP (uA u0 o) k := by
  funext i
  unfold uA uP
  rw [uE_app]
  have : uE [(1, nI k)] i = (i == k) := by
    unfold uE
    simp only [List.any_cons, List.any_nil, Bool.or_false, nI_clamp (show k < 2 ^ 31 by omega)]
    by_cases e : i = k
    · subst e; simp
    · simp only [beq_self_eq_true, Bool.true_and]
      rw [show (k == i) = false from by simpa using (fun z : k = i => e z.symm), show (i == k) = false from by simpa using e]
  rw [this, Bool.or_assoc]
abbrev fEc : List Nat := [5, 6, 8, 9, 10]
def eC (Y : List Int32) (s : Nat × Nat) (w : Nat) (vs : Nat → Bool) (K0 : List (Nat × Nat)) (u0 : Nat → Bool) (t0 t d : Nat) (W : List Nat) (o : sE) (b : Nat) (μ : jM) : Prop := okC Y t s μ ∧ μ.1 3 6 = nI d ∧ wtC W μ ∧ lwS μ w vs (K0 ++ cE vs o) (uA u0 o) ∧ xI Y t0 t d W o b
def bC (w : Nat) (e : pF) (μ : jM) : Prop := cB e μ ∧ lwB w μ ∧ wtB μ
theorem bC_3 {w : Nat} {e : pF} {F : List Nat} {μ μ' : jM} (h : bC w e μ) (ho : cO3 [] F [] μ μ') (hw : 79 ≤ w) (h1 : 8 ∉ F := by decide) (h2 : 9 ∉ F := by decide) (h3 : 10 ∉ F := by decide) (h5 : 5 ∉ F := by decide) : bC w e μ' := by
  refine ⟨cB_off h.1 ho h1 h2 h3, lwB_3 h.2.1 (ho.mono (by decide) (fun _ z => z) (fun _ z => z)) hw, ?_⟩
  obtain ⟨k, hk, e⟩ := h.2.2
  exact ⟨k, hk, by rw [ho.f 5 h5]; exact e⟩
theorem wtC_3 {W : List Nat} {F : List Nat} {μ μ' : jM} (h : wtC W μ) (ho : cO3 [] F [] μ μ') (h5 : 5 ∉ F := by decide) : wtC W μ' := by
  unfold wtC at h ⊢
  rw [ho.f 5 h5, ho.c 11]; exact h
theorem wtC_l {w : Nat} {W : List Nat} {μ μ' : jM} (h : wtC W μ) (ho : lF w [] μ μ') (hw : 79 ≤ w) : wtC W μ' := by
  unfold wtC at h ⊢
  rw [ho.2.2.2.1 5 (by decide), ho.2.1 11 (by decide) (fun _ => by decide) (by omega) (by omega)]; exact h
theorem wtC_B {W : List Nat} {μ : jM} (h : wtC W μ) (hl : W.length ≤ 24) : wtB μ := ⟨W.length, hl, h.1⟩
theorem lwS_B {w : Nat} {vs u : Nat → Bool} {K : List (Nat × Nat)} {μ : jM} (h : lwS μ w vs K u) (hl : K.length ≤ 400) : lwB w μ := ⟨K.length, hl, h.1⟩
theorem k_6 : ∀ k, k < 43 → (kC k = 40 ↔ k = 6) := by decide +kernel
theorem k_7 : ∀ k, k < 43 → (kC k = 41 ↔ k = 7) := by decide +kernel
theorem k_3 : ∀ k, k < 43 → (kC k = 3 ↔ k = 2) := by decide +kernel
abbrev okK (k : Nat) : Prop := k ≤ 10 ∨ k = 13 ∨ k = 15 ∨ 20 ≤ k
theorem sgn_ok (b : Int32) : okK (sgn b) := by
  unfold sgn
  repeat' (first | split | decide)
theorem kd_ok {Y : List Int32} {i : Nat} : okK (kd Y i) := by
  unfold kd tkK
  repeat' split
  · decide
  · rcases kwU_in ((run isL Y (pl Y i)).map lv) 23 (by decide) with h | h
    · unfold kwd; rw [h]; decide
    · unfold kwd; exact Or.inr (Or.inr (Or.inr h.1))
  · decide
  · decide
  · exact sgn_ok _
  · decide
theorem k_142 : ∀ k, k < 43 → okK k → (kC k < 142 ↔ k < 34) := by decide +kernel
theorem k_v : ∀ k, k < 43 → 34 ≤ k → kC k - 142 = nI (k - 34) := by decide +kernel
section ClE
variable {l : Launch} {G : jG} {Y : List Int32} {s : Nat × Nat} {w : Nat} {vs u0 : Nat → Bool} {K0 : List (Nat × Nat)} {t0 : Nat} {φ : jM → Prop}
theorem eC_len {t d b : Nat} {W : List Nat} {o : sE} {μ : jM} (h : eC Y s w vs K0 u0 t0 t d W o b μ) (hK : K0.length < t0) : K0.length + o.length + opc W < t ∧ t ≤ 400 ∧ W.length ≤ 20 ∧ d ≤ 6 := by
  obtain ⟨-, -, -, -, ⟨x1, -⟩, x2, x3, -, -, x6⟩ := h
  have := (wW_len d W x3).1
  omega
theorem un_bad2 (hG : gGG G) {μ : jM} (hP : gPP μ) (hw : tO gLaw pLaw G μ w) {e : pF} (h : cB e μ) (x2 : Int32) (K : J l mX4_readUnit (jZ0 2 G (pV φ)) G 0 0 64 [.ref 3, .ref w, .null, .null] [.int (-1)] μ) : J l mX4_readUnit (jZ0 2 G (pV φ)) G 0 0 2 [.ref 3, .ref w, .int x2, .null] [] μ := by
  refine b_X4_readUnit_2 hG hP hw (fun _ => d_X4_kindHere hG hP h) (fun _ v μ1 h1 => ?_) (fun _ => d_X4_kindHere hG hP h) (fun _ v μ1 h1 => ?_)
  · obtain ⟨rfl, rfl⟩ := h1; exact K
  · obtain ⟨rfl, rfl⟩ := h1
    refine b_X4_readUnit_12 (ψ1 := fun _ => True) (ψ2 := fun _ => True) hG hP hw (fun _ => d_X4_kindHere hG hP h) (fun _ v μ2 h2 => ?_) (fun z => absurd z (by decide)) (fun z => absurd z (by decide)) (fun z => absurd z (by decide)) (fun z => absurd z (by decide))
    obtain ⟨rfl, rfl⟩ := h2; exact K
theorem un_open (hG : gGG G) (h79 : 79 ≤ w) (hK : K0.length < t0) {o : sE} : ∀ (n t d : Nat) (W : List Nat) (μ : jM), n ≤ 7 → 7 ≤ n + d → gPP μ → tO gLaw pLaw G μ w → eC Y s w vs K0 u0 t0 t d W o 0 μ → (∀ (v : Int32) (μ' : jM), pR (opn Y n t d W) (fun q μ' => eC Y s w vs K0 u0 t0 q.1 q.2.1 q.2.2 o 0 μ' ∧ v = kC (kd Y q.1)) (fun e μ' => bC w e μ' ∧ v = -1) μ' ∧ lF w fEc μ μ' → J l mX4_readUnit (jZ0 2 G (pV φ)) G 0 0 64 [.ref 3, .ref w, .null, .null] [.int v] μ') → J l mX4_readUnit (jZ0 2 G (pV φ)) G 0 0 2 [.ref 3, .ref w, .int (nI (7 - n)), .null] [] μ := by
  intro n
  induction n with
  | zero => intro t d W μ _ hn _ _ hs _; have := (eC_len hs hK).2.2.2; omega
  | succ n ih =>
    intro t d W μ hn7 hn hP hw hs K
    obtain ⟨h1, h2, h3, h4, h5⟩ := id hs
    obtain ⟨b1, b2, b3, b4⟩ := eC_len hs hK
    have hk43 := kd_in (Y := Y) (i := t)
    have h6 : ¬ (6 : Int32) < nI (7 - (n + 1)) := nI_nlt (a := 6) (by omega) (by decide)
    refine b_X4_readUnit_2 (ψ0 := fun _ _ => True) hG hP hw (fun z => absurd z h6) (fun z => absurd z h6) (fun _ => c_X4_kindHere hG hP h1) (fun _ v μ1 hv => ?_)
    obtain ⟨rfl, rfl⟩ := hv
    have i1 : nI (7 - (n + 1)) + 1 = nI (7 - n) := by rw [nI_inc]; congr 1; omega
    by_cases hk : kd Y t = 6
    · have hz : kC (kd Y t) = 40 := (k_6 _ hk43).mpr hk
      by_cases hd : d = 6
      · have hop : opn Y (n + 1) t d W = .error (2, pl Y t) := by unfold opn; rw [if_pos hk, if_pos hd]
        have e6 : ¬ μ1.1 3 6 < 6 := by rw [h2, hd]; decide
        refine b_X4_readUnit_12 (ψ0 := fun _ _ => True) (ψ1 := fun _ => True) hG hP hw (fun z => absurd hz z) (fun z => absurd hz z) (fun _ z => absurd z e6) (fun _ z => absurd z e6) (fun _ _ => c_X4_failHere hG hP h1 (k := 2) rfl (Or.inr rfl)) (fun _ _ μ2 h2' => ?_)
        obtain ⟨m2, o2⟩ := h2'
        have P2 := o2.gPP hP
        refine b_X4_readUnit_31 hG P2 (o2.tO hw) (un_bad2 hG P2 (o2.tO hw) m2 _ (K _ μ2 ⟨?_, lF_30 o2 h79 (by decide)⟩))
        rw [hop]
        exact ⟨⟨m2, lwS_B (lwS_3 h4 (o2.mono (by decide) (fun _ z => z) (fun _ z => z)) h79) (by rw [List.length_append, cE_len]; omega), wtC_B (wtC_3 h3 o2) (by omega)⟩, rfl⟩
      · have hop : opn Y (n + 1) t d W = bd (tke Y t) fun t' => opn Y n t' (d + 1) (6 :: W) := by conv => lhs; unfold opn; rw [if_pos hk, if_neg hd]
        have e6 : μ1.1 3 6 < 6 := by rw [h2]; exact nI_lt (b := 6) (by omega) (by decide)
        refine b_X4_readUnit_12 (ψ0 := fun _ _ => True) (ψ2 := fun _ => True) hG hP hw (fun z => absurd hz z) (fun z => absurd hz z) (fun _ _ => c_X4_putOff (k := 6) hG hP h3 (by omega) rfl) (fun _ _ μ2 h2' => ?_) (fun _ z => absurd e6 z) (fun _ z => absurd e6 z)
        obtain ⟨w2, o2⟩ := h2'
        have P2 := o2.gPP hP
        have o3 : cO3 [] [6] [] μ2 (wI μ2 3 6 (μ2.1 3 6 + 1)) := cO3_wF (by decide)
        have P3 := o3.gPP P2
        have k3 : okC Y t s (wI μ2 3 6 (μ2.1 3 6 + 1)) := okC_off (okC_off h1 o2) o3
        have s3 : lwS (wI μ2 3 6 (μ2.1 3 6 + 1)) w vs (K0 ++ cE vs o) (uA u0 o) := lwS_3 (lwS_3 h4 o2 h79) (o3.mono (by decide) (fun _ z => z) (fun _ z => z)) h79
        have w3 := wtC_3 w2 o3
        have d3 : (wI μ2 3 6 (μ2.1 3 6 + 1)).1 3 6 = nI (d + 1) := by rw [wI_at, o2.f 6, h2, nI_inc]
        have oA : lF w fEc μ1 (wI μ2 3 6 (μ2.1 3 6 + 1)) := (lF_3 o2 h79 (by decide)).trans (lF_30 o3 h79 (by decide))
        refine b_X4_readUnit_40 hG P2 (o2.tO hw) (c_X4_take hG P3 k3 (by omega)) (fun μ4 h4' => ?_)
        obtain ⟨h4', o4⟩ := h4'
        have P4 := o4.gPP P3
        have t4 := o4.tO (o3.tO (o2.tO hw))
        have o4' : cO3 [11] gF [] (wI μ2 3 6 (μ2.1 3 6 + 1)) μ4 := o4.mono (by decide) (fun _ z => z) (fun _ z => z)
        refine b_X4_readUnit_54 hG P4 t4 ?_
        rw [i1]
        cases et : tke Y t with
        | error f =>
          have m4 : cB f μ4 := pR_er h4' et
          refine un_bad2 hG P4 t4 m4 _ (K _ μ4 ⟨?_, oA.trans (lF_30 o4 h79 (by decide))⟩)
          rw [hop, et]
          exact ⟨⟨m4, lwS_B (lwS_3 s3 o4' h79) (by rw [List.length_append, cE_len]; omega), wtC_B (wtC_3 w3 o4) (by rw [List.length_cons]; omega)⟩, rfl⟩
        | ok t' =>
          have k4 := pR_ok h4' et
          obtain ⟨rfl, h400⟩ := tke_ok et
          refine ih (t + 1) (d + 1) (6 :: W) μ4 (by omega) (by omega) P4 t4 ⟨k4, by rw [o4.f 6]; exact d3, wtC_3 w3 o4, lwS_3 s3 o4' h79, xI_open h5 hk hd h400⟩ (fun v μ5 h5' => K v μ5 ⟨?_, (oA.trans (lF_30 o4 h79 (by decide))).trans h5'.2⟩)
          rw [hop, et, bd_ok]; exact h5'.1
    · have hz : ¬ kC (kd Y t) = 40 := fun z => hk ((k_6 _ hk43).mp z)
      refine b_X4_readUnit_12 (ψ1 := fun _ => True) (ψ2 := fun _ => True) hG hP hw (fun _ => c_X4_kindHere hG hP h1) (fun _ v μ2 h2' => ?_) (fun z => absurd z hz) (fun z => absurd z hz) (fun z => absurd z hz) (fun z => absurd z hz)
      obtain ⟨rfl, rfl⟩ := h2'
      refine K _ _ ⟨?_, lF.refl⟩
      unfold opn
      rw [if_neg hk]
      exact ⟨hs, rfl⟩
theorem un_bad126 (hG : gGG G) {μ : jM} (hP : gPP μ) (hw : tO gLaw pLaw G μ w) {e : pF} (h : cB e μ) (x3 : Int32) (K : φ μ) : J l mX4_readUnit (jZ0 2 G (pV φ)) G 0 0 126 [.ref 3, .ref w, .null, .int x3] [] μ := by
  refine b_X4_readUnit_126 hG hP hw (fun _ => K) (fun _ _ => K) (fun _ _ => d_X4_kindHere hG hP h) (fun _ _ v μ1 h1 => ?_)
  obtain ⟨rfl, rfl⟩ := h1
  exact b_X4_readUnit_143 (ψ1 := fun _ => True) hG hP hw (fun _ => K) (fun z => absurd z (by decide)) (fun z => absurd z (by decide))
theorem mx0 {n : Nat} (hn : n < 2 ^ 31) : (if (0 : Int32) < nI n then nI n else 0) = nI n := by
  by_cases h : n = 0
  · subst h; split <;> rfl
  · have h1 : (0 : Int32) < nI n := nI_lt (a := 0) (by omega) hn
    exact if_pos h1
theorem un_154 {μ : jM} {x3 : Int32} {ψ0 : jM → Prop} (hG : gGG G) (hP : gPP μ) (hw : tO gLaw pLaw G μ w) (h5 : (if (0 : Int32) < μ.1 3 5 - 1 then μ.1 3 5 - 1 else 0) = μ.1 3 5 - 1)
    (e0 : jC0 l mX4_take 1 G [.ref 3] (wI (wI μ 3 5 (μ.1 3 5 - 1)) 3 6 (μ.1 3 6 - 1)) (pV ψ0)) (k0 : ∀ μ', ψ0 μ' → J l mX4_readUnit (jZ0 2 G (pV φ)) G 0 0 182 [.ref 3, .ref w, .null, .int x3] [] μ') :
    J l mX4_readUnit (jZ0 2 G (pV φ)) G 0 0 154 [.ref 3, .ref w, .null, .int x3] [] μ :=
  b_X4_readUnit_154 hG hP hw (by rw [h5]; exact e0) k0
theorem un_close (hG : gGG G) (h79 : 79 ≤ w) (hK : K0.length < t0) : ∀ (n t d : Nat) (W : List Nat) (o : sE) (μ : jM), n ≤ 7 → gPP μ → tO gLaw pLaw G μ w → eC Y s w vs K0 u0 t0 t d W o 1 μ → (∀ μ', pR (cls Y n t d W o) (fun q μ' => eC Y s w vs K0 u0 t0 q.1 q.2.1 q.2.2.1 q.2.2.2 1 μ') (bC w) μ' ∧ lF w fEc μ μ' → φ μ') → J l mX4_readUnit (jZ0 2 G (pV φ)) G 0 0 126 [.ref 3, .ref w, .null, .int (nI (7 - n))] [] μ := by
  intro n
  induction n with
  | zero =>
    intro t d W o μ _ hP hw hs K
    exact b_X4_readUnit_126 (ψ2 := fun _ _ => True) hG hP hw (fun _ => K μ ⟨hs, lF.refl⟩) (fun z => absurd (by decide) z) (fun z => absurd (by decide) z) (fun z => absurd (by decide) z)
  | succ n ih =>
    intro t d W o μ hn7 hP hw hs K
    obtain ⟨h1, h2, h3, h4, h5⟩ := id hs
    obtain ⟨b1, b2, b3, b4⟩ := eC_len hs hK
    have hk43 := kd_in (Y := Y) (i := t)
    have h6 : ¬ (6 : Int32) < nI (7 - (n + 1)) := nI_nlt (a := 6) (by omega) (by decide)
    have i1 : nI (7 - (n + 1)) + 1 = nI (7 - n) := by rw [nI_inc]; congr 1; omega
    have stop : ¬ (kd Y t = 7 ∧ 0 < d) → φ μ := fun hc => K μ ⟨by unfold cls; rw [if_neg hc]; exact hs, lF.refl⟩
    by_cases hd : 0 < d
    · have e0 : ¬ μ.1 3 6 ≤ 0 := by rw [h2]; exact nI_nle hd (by omega)
      refine b_X4_readUnit_126 hG hP hw (fun z => absurd z h6) (fun _ z => absurd z e0) (fun _ _ => c_X4_kindHere hG hP h1) (fun _ _ v μ1 hv => ?_)
      obtain ⟨rfl, rfl⟩ := hv
      by_cases hk : kd Y t = 7
      · have hz : kC (kd Y t) = 41 := (k_7 _ hk43).mpr hk
        refine b_X4_readUnit_143 hG hP hw (fun z => absurd hz z) (fun _ => c_X4_settle (r := 1) hG hP h79 hw (Or.inl rfl) (wW_op d W h5.2.2.1) h3 h4 (by omega) (by omega) rfl) (fun _ μ2 h2' => ?_)
        obtain ⟨w2, s2, o2⟩ := h2'
        have P2 := o2.gPP hP
        obtain ⟨d', R, hdd, e1, hR⟩ : ∃ d' R, d = d' + 1 ∧ (pw 1 W o).1 = 6 :: R ∧ wW d' R := by
          rcases pw1_W h5.2.2.1 o with ⟨q, -⟩ | q
          · omega
          · exact q
        have hlen := pw_len (r := 1) (Nat.le_refl _) W o
        rw [e1] at w2 hlen
        rw [opc_6] at hlen
        have hRl := (wW_len d' R hR).1
        have e5 : μ2.1 3 5 - 1 = nI R.length := by rw [w2.1, List.length_cons]; exact nI_pred _
        have e6 : μ2.1 3 6 - 1 = nI d' := by rw [o2.2.2.2.1 6 (by decide), h2, hdd]; exact nI_pred _
        have o3 : cO3 [11] [5, 6] [] μ2 (wI (wI μ2 3 5 (μ2.1 3 5 - 1)) 3 6 (μ2.1 3 6 - 1)) := (cO3_wF (by decide)).trans (cO3_wF (by decide))
        have P3 := o3.gPP P2
        have k3 : okC Y t s (wI (wI μ2 3 5 (μ2.1 3 5 - 1)) 3 6 (μ2.1 3 6 - 1)) := okC_off (lF_okC h1 o2 h79) o3
        have s3 := lwS_3 s2 o3 h79
        have w3 : wtC R (wI (wI μ2 3 5 (μ2.1 3 5 - 1)) 3 6 (μ2.1 3 6 - 1)) := ⟨by rw [wI_off' (by decide), wI_at]; exact e5, by rw [wI_ne (by decide), wI_ne (by decide)]; exact w2.2.2⟩
        have d3 : (wI (wI μ2 3 5 (μ2.1 3 5 - 1)) 3 6 (μ2.1 3 6 - 1)).1 3 6 = nI d' := by rw [wI_at]; exact e6
        have oA : lF w fEc μ1 (wI (wI μ2 3 5 (μ2.1 3 5 - 1)) 3 6 (μ2.1 3 6 - 1)) := (o2.mono (by decide)).trans (lF_3 o3 h79 (by decide))
        have hcl : cls Y (n + 1) t d W o = bd (tke Y t) fun t' => cls Y n t' (d - 1) (pw 1 W o).1.tail (pw 1 W o).2 := by conv => lhs; unfold cls; rw [if_pos ⟨hk, hd⟩]
        have m5 : (if (0 : Int32) < μ2.1 3 5 - 1 then μ2.1 3 5 - 1 else 0) = μ2.1 3 5 - 1 := by rw [e5]; exact mx0 (by omega)
        refine un_154 hG P2 (o2.tO hw) m5 (c_X4_take hG P3 k3 (by omega)) (fun μ4 h4' => ?_)
        obtain ⟨h4', o4⟩ := h4'
        have P4 := o4.gPP P3
        have t4 := o4.tO (o3.tO (o2.tO hw))
        have o4' : cO3 [11] gF [] (wI (wI μ2 3 5 (μ2.1 3 5 - 1)) 3 6 (μ2.1 3 6 - 1)) μ4 := o4.mono (by decide) (fun _ z => z) (fun _ z => z)
        refine b_X4_readUnit_182 hG P4 t4 ?_
        rw [i1]
        cases et : tke Y t with
        | error f =>
          have m4 : cB f μ4 := pR_er h4' et
          refine un_bad126 hG P4 t4 m4 _ (K μ4 ⟨?_, oA.trans (lF_30 o4 h79 (by decide))⟩)
          rw [hcl, et]
          exact ⟨m4, lwS_B (lwS_3 s3 o4' h79) (by rw [List.length_append, cE_len]; omega), wtC_B (wtC_3 w3 o4) (by omega)⟩
        | ok t' =>
          have k4 := pR_ok h4' et
          obtain ⟨rfl, h400⟩ := tke_ok et
          have xc := (xI_close h5 hk hd h400).2
          rw [e1, List.tail_cons, show d - 1 = d' by omega] at xc
          refine ih (t + 1) d' R (pw 1 W o).2 μ4 (by omega) P4 t4 ⟨k4, by rw [o4.f 6]; exact d3, wtC_3 w3 o4, by rw [uA_pw]; exact lwS_3 s3 o4' h79, xc⟩ (fun μ5 h5' => K μ5 ⟨?_, (oA.trans (lF_30 o4 h79 (by decide))).trans h5'.2⟩)
          rw [hcl, et, bd_ok, e1, List.tail_cons, show d - 1 = d' by omega]; exact h5'.1
      · have hz : ¬ kC (kd Y t) = 41 := fun z => hk ((k_7 _ hk43).mp z)
        exact b_X4_readUnit_143 (ψ1 := fun _ => True) hG hP hw (fun _ => stop (fun z => hk z.1)) (fun z => absurd z hz) (fun z => absurd z hz)
    · have e0 : μ.1 3 6 ≤ 0 := by rw [h2, show d = 0 by omega]; decide
      exact b_X4_readUnit_126 (ψ2 := fun _ _ => True) hG hP hw (fun z => absurd z h6) (fun _ _ => stop (fun z => hd z.2)) (fun _ z => absurd e0 z) (fun _ z => absurd e0 z)
theorem c_X4_readUnit (hG : gGG G) {μ : jM} (hP : gPP μ) (h79 : 79 ≤ w) (hw : tO gLaw pLaw G μ w) (hK : K0.length < t0) {t d : Nat} {W : List Nat} {o : sE} (hs : eC Y s w vs K0 u0 t0 t d W o 0 μ) : jC0 l mX4_readUnit 2 G [.ref 3, .ref w] μ (pV fun μ' => pR (un1 Y t d W o) (fun q μ' => eC Y s w vs K0 u0 t0 q.1 q.2.1 q.2.2.1 q.2.2.2 1 μ') (bC w) μ' ∧ lF w fEc μ μ') := by
  refine jC0.of' (ls := [.ref 3, .ref w, .null, .null]) rfl rfl rfl (fun _ _ => Nat.le_of_ble_eq_true rfl) ?_
  refine b_X4_readUnit_0 hG hP hw ?_
  refine un_open hG h79 hK 7 t d W μ (Nat.le_refl _) (by omega) hP hw hs (fun v μ1 h1 => ?_)
  obtain ⟨h1, o1⟩ := h1
  have P1 := o1.gPP hP
  have T1 := o1.tO hw
  unfold un1
  cases e : opn Y 7 t d W with
  | error f =>
    rw [e] at h1
    obtain ⟨m1, rfl⟩ : bC w f μ1 ∧ v = -1 := h1
    refine b_X4_readUnit_64 (ψ1 := fun _ => True) (ψ2 := fun _ _ => True) hG P1 T1 (fun _ _ => d_X4_failHere hG P1 m1.1 _) (fun _ _ μ2 h2 => ?_) (fun _ z => absurd (by decide) z) (fun _ z => absurd (by decide) z) (fun z => absurd z (by decide)) (fun z => absurd z (by decide)) (fun z => absurd z (by decide))
    subst h2
    exact b_X4_readUnit_124 hG P1 T1 (un_bad126 hG P1 T1 m1.1 _ ⟨m1, o1⟩)
  | ok q =>
    rw [e] at h1
    obtain ⟨s1, rfl⟩ : eC Y s w vs K0 u0 t0 q.1 q.2.1 q.2.2 o 0 μ1 ∧ v = kC (kd Y q.1) := h1
    obtain ⟨k1, k2, k3, k4, k5⟩ := id s1
    obtain ⟨b1, b2, b3, b4⟩ := eC_len s1 hK
    have hk43 := kd_in (Y := Y) (i := q.1)
    obtain ⟨a1, -, -, -, -, a6⟩ := u_atC k1
    rw [bd_ok]
    have K400 : (K0 ++ cE vs o).length < 400 := by rw [List.length_append, cE_len]; omega
    /- behind the unit -/
    have aft : ∀ (uu : Nat × Int32) (μ2 : jM), (kd Y q.1 = 2 ∧ uu = (0, nI (vl Y q.1))) ∨ (34 ≤ kd Y q.1 ∧ uu = (1, nI (kd Y q.1 - 34))) → lwS μ2 w vs (K0 ++ cE vs (o ++ [uu])) (uA u0 (o ++ [uu])) → lF w [] μ1 μ2 → ∀ μ3, pR (tke Y q.1) (fun t' μ' => okC Y t' s μ') cB μ3 ∧ cO3 [] gF [] μ2 μ3 → (unt Y q.1 = bd (tke Y q.1) fun t' => .ok (t', uu)) → J l mX4_readUnit (jZ0 2 G (pV fun μ' => pR (bd (unt Y q.1) fun u => cls Y 7 u.1 q.2.1 q.2.2 (o ++ [u.2])) (fun q μ' => eC Y s w vs K0 u0 t0 q.1 q.2.1 q.2.2.1 q.2.2.2 1 μ') (bC w) μ' ∧ lF w fEc μ μ')) G 0 0 126 [.ref 3, .ref w, .null, .int 0] [] μ3 := by
      rintro uu μ2 huu s2 o2 μ3 ⟨h3, o3⟩ hunt
      have P3 := o3.gPP (o2.gPP P1)
      have T3 := o3.tO (o2.tO T1)
      have o3' : cO3 [11] gF [] μ2 μ3 := o3.mono (by decide) (fun _ z => z) (fun _ z => z)
      have oo : lF w fEc μ μ3 := (o1.trans (o2.mono (by decide))).trans (lF_30 o3 h79 (by decide))
      have w3 : wtC q.2.2 μ3 := wtC_3 (wtC_l k3 o2 h79) o3
      have s3 := lwS_3 s2 o3' h79
      rw [hunt]
      cases et : tke Y q.1 with
      | error f =>
        have m3 : cB f μ3 := pR_er h3 et
        exact un_bad126 hG P3 T3 m3 _ ⟨⟨m3, lwS_B s3 (by rw [List.length_append, cE_len, List.length_append]; simp; omega), wtC_B w3 (by omega)⟩, oo⟩
      | ok t' =>
        have kk := pR_ok h3 et
        obtain ⟨rfl, h400⟩ := tke_ok et
        refine un_close hG h79 hK 7 (q.1 + 1) q.2.1 q.2.2 (o ++ [uu]) μ3 (Nat.le_refl _) P3 T3 ⟨kk, by rw [o3.f 6, o2.2.2.2.1 6 (by decide)]; exact k2, w3, s3, xI_unit k5 huu h400⟩ (fun μ4 h4 => ⟨h4.1, oo.trans h4.2⟩)
    by_cases k2' : kd Y q.1 = 2
    · have hz : kC (kd Y q.1) = 3 := (k_3 _ hk43).mpr k2'
      have hvl := vl_le k2'
      have ev : Int64.toInt32 (μ1.2.1 7 (μ1.1 3 8).toNatClampNeg) = nI (vl Y q.1) := by
        rw [a1, nI_clamp (by omega), a6 k2']
        apply Int32.toBitVec_inj.mp
        show (BitVec.ofNat 64 (vl Y q.1)).signExtend 32 = BitVec.ofNat 32 (vl Y q.1)
        rw [BitVec.signExtend_eq_setWidth_of_le _ (by decide)]
        apply BitVec.eq_of_toNat_eq
        simp
      refine b_X4_readUnit_64 (ψ0 := fun _ => True) (ψ1 := fun _ => True) hG P1 T1 (fun z => absurd hz z) (fun z => absurd hz z) (fun z => absurd hz z) (fun z => absurd hz z) (fun _ => by rw [a1]; exact vp_in_nI (by omega) (by decide)) (fun _ => by rw [ev]; exact c_X2_add (k := 0) (n := vl Y q.1) hG P1 h79 T1 k4 K400 (by decide) (by omega) rfl rfl) (fun _ v2 μ2 h2 => ?_)
      obtain ⟨-, s2, o2⟩ := h2
      have P2 := o2.gPP P1
      refine b_X4_readUnit_88 hG P2 (o2.tO T1) (c_X4_take hG P2 (lF_okC k1 o2 h79) (by omega)) (fun μ3 h3 => ?_)
      refine b_X4_readUnit_93 hG (h3.2.gPP P2) (h3.2.tO (o2.tO T1)) (aft (0, nI (vl Y q.1)) μ2 (Or.inl ⟨k2', rfl⟩) ?_ o2 μ3 h3 (by unfold unt; rw [if_pos k2']))
      rw [uA_0]
      have : K0 ++ cE vs o ++ [(0, vl Y q.1)] = K0 ++ cE vs (o ++ [(0, nI (vl Y q.1))]) := by
        rw [cE_app, List.append_assoc]
        congr 2
        unfold cE; simp [nI_clamp (show vl Y q.1 < 2 ^ 31 by omega)]
      rw [← this]; exact s2
    · have hz3 : ¬ kC (kd Y q.1) = 3 := fun z => k2' ((k_3 _ hk43).mp z)
      by_cases k34 : 34 ≤ kd Y q.1
      · have hlt : ¬ kC (kd Y q.1) < 142 := fun z => by have := (k_142 _ hk43 kd_ok).mp z; omega
        refine b_X4_readUnit_64 (ψ0 := fun _ => True) (ψ2 := fun _ _ => True) hG P1 T1 (fun _ z => absurd z hlt) (fun _ z => absurd z hlt) (fun _ _ => c_X2_addVar (i := kd Y q.1 - 34) hG P1 h79 T1 k4 K400 (by omega) (k_v _ hk43 k34)) (fun _ _ μ2 h2 => ?_) (fun z => absurd z hz3) (fun z => absurd z hz3) (fun z => absurd z hz3)
        obtain ⟨s2, o2⟩ := h2
        have P2 := o2.gPP P1
        refine b_X4_readUnit_112 hG P2 (o2.tO T1) (c_X4_take hG P2 (lF_okC k1 o2 h79) (by omega)) (fun μ3 h3 => ?_)
        refine b_X4_readUnit_116 hG (h3.2.gPP P2) (h3.2.tO (o2.tO T1)) (aft (1, nI (kd Y q.1 - 34)) μ2 (Or.inr ⟨k34, rfl⟩) ?_ o2 μ3 h3 (by unfold unt; rw [if_neg k2', if_pos k34]))
        rw [uA_1 (by omega), cE_app, ← List.append_assoc]; exact s2
      · have hlt : kC (kd Y q.1) < 142 := (k_142 _ hk43 kd_ok).mpr (by omega)
        have hunt : unt Y q.1 = .error (1, pl Y q.1) := by unfold unt; rw [if_neg k2', if_neg k34]
        refine b_X4_readUnit_64 (ψ1 := fun _ => True) (ψ2 := fun _ _ => True) hG P1 T1 (fun _ _ => c_X4_failHere hG P1 k1 (k := 1) rfl (Or.inl rfl)) (fun _ _ μ2 h2 => ?_) (fun _ z => absurd hlt z) (fun _ z => absurd hlt z) (fun z => absurd z hz3) (fun z => absurd z hz3) (fun z => absurd z hz3)
        obtain ⟨m2, o2⟩ := h2
        have P2 := o2.gPP P1
        refine b_X4_readUnit_124 hG P2 (o2.tO T1) (un_bad126 hG P2 (o2.tO T1) m2 _ ?_)
        rw [hunt]
        exact ⟨⟨m2, lwS_B (lwS_3 k4 (o2.mono (by decide) (fun _ z => z) (fun _ z => z)) h79) (by omega), wtC_B (wtC_3 k3 o2) (by omega)⟩, o1.trans (lF_30 o2 h79 (by decide))⟩
theorem d_X4_readUnit (hG : gGG G) {μ : jM} (hP : gPP μ) (hw : tO gLaw pLaw G μ w) {e : pF} (h : bC w e μ) : jC0 l mX4_readUnit 2 G [.ref 3, .ref w] μ (pV fun μ' => μ' = μ) := by
  refine jC0.of' (ls := [.ref 3, .ref w, .null, .null]) rfl rfl rfl (fun _ _ => Nat.le_of_ble_eq_true rfl) ?_
  refine b_X4_readUnit_0 hG hP hw (un_bad2 hG hP hw h.1 _ ?_)
  refine b_X4_readUnit_64 (ψ1 := fun _ => True) (ψ2 := fun _ _ => True) hG hP hw (fun _ _ => d_X4_failHere hG hP h.1 _) (fun _ _ μ2 h2 => ?_) (fun _ z => absurd (by decide) z) (fun _ z => absurd (by decide) z) (fun z => absurd z (by decide)) (fun z => absurd z (by decide)) (fun z => absurd z (by decide))
  subst h2
  exact b_X4_readUnit_124 hG hP hw (un_bad126 hG hP hw h.1 _ rfl)
end ClE
