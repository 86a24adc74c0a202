/-! THE CLASS reads: the draft -/
def clF (d : Nat) (μ μ' : jM) : Prop := μ'.2.2 = μ.2.2 ∧ (∀ c, c ≠ 3 → c ≠ 11 → ¬ (d ≤ c ∧ c ≤ d + 20) → μ'.1 c = μ.1 c) ∧ (∀ q, q < 3 → ∀ f, f ≠ 5 → μ'.1 (lw d q) f = μ.1 (lw d q) f) ∧ ∀ c, c ≠ 9 → c ≠ 10 → ¬ (d ≤ c ∧ c ≤ d + 20) → μ'.2.1 c = μ.2.1 c
theorem clF.refl {d : Nat} {μ : jM} : clF d μ μ := ⟨rfl, fun _ _ _ _ => rfl, fun _ _ _ _ => rfl, fun _ _ _ _ => rfl⟩
theorem clF.trans {d : Nat} {μ μ1 μ2 : jM} (h1 : clF d μ μ1) (h2 : clF d μ1 μ2) : clF d μ μ2 := ⟨h2.1.trans h1.1, fun c a b e => (h2.2.1 c a b e).trans (h1.2.1 c a b e), fun q a f b => (h2.2.2.1 q a f b).trans (h1.2.2.1 q a f b), fun c a b e => (h2.2.2.2 c a b e).trans (h1.2.2.2 c a b e)⟩
theorem clF.gPP {d : Nat} {μ μ' : jM} (h : clF d μ μ') (hP : gPP μ) : gPP μ' := gPP_of h.1 hP
theorem clF.tO {d : Nat} {μ μ' : jM} (h : clF d μ μ') {gl : jG} {pl : Nat → Nat → Option Nat} {G : jG} {t : Nat} (ht : tO gl pl G μ t) : tO gl pl G μ' t := tO_of h.1 ht
theorem clF_3 {d : Nat} {F L : List Nat} {μ μ' : jM} (h : cO3 [] F L μ μ') (hd : 70 ≤ d) (hL : ∀ c ∈ L, c = 9 ∨ c = 10) : clF d μ μ' := ⟨h.1, fun c a _ _ => h.2.1 c a (by simp), fun q _ f _ => by rw [h.2.1 (lw d q) (by unfold lw; omega) (by simp)], fun c a b _ => h.2.2.2 c (fun z => by rcases hL c z with q | q; exact a q; exact b q)⟩
theorem clF_w {d c i : Nat} {μ : jM} {x : Int32} (h1 : d ≤ c) (h2 : c ≤ d + 8) : clF d μ (wI μ c i x) := ⟨rfl, fun a _ _ e => wI_ne (fun z => e (by omega)), fun q hq f _ => by rw [wI_ne (by unfold lw; omega)], fun _ _ _ _ => rfl⟩
theorem clF_l {d q : Nat} {F : List Nat} {μ μ' : jM} (h : lG (lw d q) F μ μ') (hq : q < 3) (hd : 70 ≤ d) : clF d μ μ' := by
  refine ⟨h.1, fun c a b e => h.2.1 c a (fun z => absurd z b) (fun z => e (by rw [z]; unfold lw; omega)) (fun z => e (by rw [z]; unfold lw; omega)), fun q' hq' f hf => ?_, fun c _ _ e => h.2.2.2.2 c (fun z => e (by rw [z]; unfold lw; omega)) (fun z => e (by rw [z]; unfold lw; omega))⟩
  by_cases e : q' = q
  · subst e; exact h.2.2.1 f hf
  · rw [h.2.1 (lw d q') (by unfold lw; omega) (fun z => absurd z (by unfold lw; omega)) (by unfold lw; omega) (by unfold lw; omega)]
def dCI (d : Nat) (T : sT) (μ : jM) : Prop := μ.1 d 0 = nI (T 0 0) ∧ μ.1 d 1 = nI (T 0 1) ∧ μ.1 d 2 = nI (T 0 2) ∧ μ.1 d 7 = nI (T 0 3) ∧ μ.1 d 16 = nI (T 0 4) ∧ μ.1 d 17 = nI (T 0 5) ∧ μ.1 d 18 = nI (T 0 6) ∧ μ.1 d 19 = nI (T 0 7)
def dCR (d : Nat) (T : sT) (μ : jM) : Prop := ∀ k, k < T 0 1 → μ.1 (d + 1) k = nI (T 1 k) ∧ μ.1 (d + 2) k = nI (T 2 k) ∧ μ.1 (d + 3) k = nI (T 3 k)
def dCF (d : Nat) (T : sT) (μ : jM) : Prop := (∀ k, k < T 0 1 → bt (μ.1 d 6) k = decide (T 4 k = 1)) ∧ ∀ k, T 0 1 ≤ k → k < 32 → bt (μ.1 d 6) k = false
def dCG (d : Nat) (T : sT) (μ : jM) : Prop := ∀ a, a < T 0 2 → μ.1 (d + 4) a = nI (T 5 a) ∧ μ.1 (d + 5) a = nI (T 6 a) ∧ μ.1 (d + 6) a = nI (T 7 a) ∧ μ.1 (d + 7) a = nI (T 8 a) ∧ μ.1 (d + 8) a = nI (T 9 a)
def dCL (d : Nat) (Lw : Nat → sLaw) (μ : jM) : Prop := ∀ q, q < 3 → lwS μ (lw d q) (vsQ q) (cL (vsQ q) (Lw q) 0) (uL (Lw q)) ∧ ∀ i, i < 84 → μ.2.1 (lw d q + 1) i = -1
def dC (d : Nat) (T : sT) (Lw : Nat → sLaw) (N : nL) (μ : jM) : Prop := dCI d T μ ∧ dCR d T μ ∧ dCF d T μ ∧ dCG d T μ ∧ nmC N d μ ∧ dCL d Lw μ
theorem dCL_c {d : Nat} {Lw : Nat → sLaw} {μ μ' : jM} (h : dCL d Lw μ) (h1 : ∀ c, d + 9 ≤ c → c ≤ d + 20 → μ'.1 c = μ.1 c ∧ μ'.2.1 c = μ.2.1 c) : dCL d Lw μ' := fun q hq => by
  have := h q hq
  unfold lwS vsK at this ⊢
  rw [(h1 (lw d q) (by unfold lw; omega) (by unfold lw; omega)).1, (h1 (lw d q) (by unfold lw; omega) (by unfold lw; omega)).2, (h1 (lw d q + 3) (by unfold lw; omega) (by unfold lw; omega)).1, (h1 (lw d q + 1) (by unfold lw; omega) (by unfold lw; omega)).2]
  exact this
theorem dC_3 {d : Nat} {T : sT} {Lw : Nat → sLaw} {N : nL} {F : List Nat} {μ μ' : jM} (h : dC d T Lw N μ) (ho : cO3 [] F [] μ μ') (hd : 70 ≤ d) : dC d T Lw N μ' := by
  obtain ⟨a1, a2, a3, a4, a5, a6⟩ := h
  have hc : ∀ c, 70 ≤ c → μ'.1 c = μ.1 c := fun c h => ho.2.1 c (by omega) (by simp)
  refine ⟨?_, ?_, ?_, ?_, nmC_3 a5 ho (by omega), dCL_c a6 (fun c h1 _ => ⟨hc c (by omega), ho.2.2.2 c (by simp)⟩)⟩
  · unfold dCI at a1 ⊢; rw [hc d hd]; exact a1
  · unfold dCR at a2 ⊢; rw [hc (d + 1) (by omega), hc (d + 2) (by omega), hc (d + 3) (by omega)]; exact a2
  · unfold dCF at a3 ⊢; rw [hc d hd]; exact a3
  · unfold dCG at a4 ⊢; rw [hc (d + 4) (by omega), hc (d + 5) (by omega), hc (d + 6) (by omega), hc (d + 7) (by omega), hc (d + 8) (by omega)]; exact a4
/-- what a telling makes of the draft -/
def qC (Y : List Int32) (d : Nat) (x : Except pF pS) (μ : jM) : Prop := pR x (fun q μ => okC Y q.1 q.2.1 μ ∧ dC d q.2.2.1 q.2.2.2.1 q.2.2.2.2 μ) cB μ
theorem cw_off {d c i : Nat} {μ : jM} {x : Int32} (h : 70 ≤ c) : cO3 [c] [] [] μ (wI μ c i x) := cO3_wC (by omega) (by simp)
theorem uC_w {α : Type} {Y : List Int32} {x : Except pF α} {tk : α → Nat} {ww : α → Nat × Nat} {μ : jM} {c i : Nat} {y : Int32} (h : uC Y x tk ww μ) (hc : 70 ≤ c) : uC Y x tk ww (wI μ c i y) := uC_off h (cw_off (d := c) hc) (by simp; omega) (by simp; omega)
theorem nmC_w {N : nL} {d c i : Nat} {μ : jM} {y : Int32} (h : nmC N d μ) (hc : c ≠ d) : nmC N d (wI μ c i y) := by
  unfold nmC at h ⊢
  rw [wI_ne (fun z => hc z.symm)]; exact h
theorem k_130 : ∀ k, k < 43 → (kC k = 130 ↔ k = 22) := by decide +kernel
theorem k_131 : ∀ k, k < 43 → (kC k = 131 ↔ k = 23) := by decide +kernel
section ClD
variable {l : Launch} {G : jG} {Y : List Int32} {w : Nat × Nat} {d : Nat} {T : sT} {Lw : Nat → sLaw} {N : nL}
def tPc (Y : List Int32) (t : Nat) (w : Nat × Nat) (T : sT) (Lw : Nat → sLaw) (N : nL) : Except pF pS := bd (if T 0 0 = 8 then .error (2, pl Y t) else tke Y t) fun t1 => bd (nwN Y t1 w N) fun r => .ok (r.1, r.2, sT1 T 0 0 (T 0 0 + 1), Lw, N ++ [(nm Y t1, T 0 0)])
theorem c_X4_readPlace (hG : gGG G) {μ : jM} (hP : gPP μ) (h70 : d = 70 ∨ d = 91) (hd : tO gTold pTold G μ d) (q37 : μ.2.2 3 7 = some d) {t : Nat} (h : okC Y t w μ) (hc : dC d T Lw N μ) (hp : pOK Y t w T Lw N) (hk : kd Y t = 20) : jC0 l mX4_readPlace 4 G [.ref 3] μ (pV fun μ' => qC Y d (tPc Y t w T Lw N) μ' ∧ clF d μ μ') := by
  refine jC0.of' (ls := [.ref 3]) rfl rfl rfl (fun _ _ => Nat.le_of_ble_eq_true rfl) ?_
  obtain ⟨a1, a2, a3, a4, a5, a6⟩ := id hc
  obtain ⟨-, -, ⟨t00, t01, t02, t03⟩, ⟨n1, n2, n3, n4⟩, -, -⟩ := hp
  have e8 : μ.1 d 0 < 8 ↔ T 0 0 < 8 := by rw [a1.1]; exact nI_ltI (b := 8) (by omega) (by decide)
  unfold tPc
  by_cases h8 : T 0 0 = 8
  · rw [if_pos h8]
    refine b_X4_readPlace_0 (ψ0 := fun _ => True) hG hP hd q37 (fun z => absurd (e8.mp z) (by omega)) (fun z => absurd (e8.mp z) (by omega)) (fun _ => c_X4_failHere hG hP h (k := 2) rfl (Or.inr rfl)) (fun _ μ1 h1 => ?_)
    exact b_X4_readPlace_17 hG (h1.2.gPP hP) ⟨h1.1, clF_3 h1.2 (by omega) (fun c hc => by cases hc)⟩
  rw [if_neg h8]
  refine b_X4_readPlace_0 (ψ1 := fun _ => True) hG hP hd q37 (fun _ => c_X4_take hG hP h (by omega)) (fun _ μ1 h1 => ?_) (fun z => absurd (e8.mpr (by omega)) z) (fun z => absurd (e8.mpr (by omega)) z)
  obtain ⟨h1, o1⟩ := h1
  have P1 := o1.gPP hP
  have D1 := o1.tO hd
  have Q1 : μ1.2.2 3 7 = some d := by rw [o1.1]; exact q37
  have c1 := dC_3 hc o1 (by omega)
  have hu : uC Y (tke Y t) id (fun _ => w) μ1 := h1
  refine b_X4_readPlace_22 hG P1 D1 Q1 (v_readNewName (k := T 0 0) hG P1 (hG 9 (3, 8) rfl) (by decide) (by omega) (by omega) D1 Q1 hu c1.2.2.2.2.1 (by decide) c1.1.1) (fun μ2 h2 => ?_)
  obtain ⟨h2, g2, o2, e2⟩ := h2
  have P2 := o2.gPP P1
  have D2 := o2.tO D1
  have Q2 : μ2.2.2 3 7 = some d := by rw [o2.1]; exact Q1
  have d0 : μ2.1 d 0 = nI (T 0 0) := by rw [o2.2.1 d (by omega) (by simp)]; exact c1.1.1
  refine b_X4_readPlace_37 hG P2 D2 Q2 ⟨?_, ((clF_3 o1 (by omega) (fun c hc => by cases hc)).trans (clF_3 o2 (by omega) (fun c hc => Or.inl (by simpa using hc)))).trans (clF_w (Nat.le_refl _) (by omega))⟩
  rw [d0, nI_inc]
  have hspec : (bd (tke Y t) fun t1 => bd (nwN Y t1 w N) fun r => (.ok (r.1, r.2, sT1 T 0 0 (T 0 0 + 1), Lw, N ++ [(nm Y t1, T 0 0)]) : Except pF pS)) = bd (px (tke Y t) fun a => nwN Y (id a) w N) fun p => .ok (p.2.1, p.2.2, sT1 T 0 0 (T 0 0 + 1), Lw, N ++ [(nm Y p.1, T 0 0)]) := by rw [px_bd]; rfl
  rw [hspec]
  have h2w := uC_w (c := d) (i := 0) (y := nI (T 0 0 + 1)) h2 (by omega)
  cases ex : (px (tke Y t) fun a => nwN Y (id a) w N) with
  | error f => exact pR_er h2w ex
  | ok p =>
    have k2 := pR_ok h2w ex
    have gn := g2 p ex
    have hkd := (nwN_t (px_inv ex).2).2
    have hN := NON_big (n := T 0 0) (by omega)
    have hcc : ∀ c, 70 ≤ c → c ≠ d → (wI μ2 d 0 (nI (T 0 0 + 1))).1 c = μ1.1 c := fun c h1 h2 => by rw [wI_ne h2, o2.2.1 c (by omega) (by simp)]
    have hdf : ∀ f, f ≠ 0 → (wI μ2 d 0 (nI (T 0 0 + 1))).1 d f = μ1.1 d f := fun f hf => by rw [wI_off' hf, o2.2.1 d (by omega) (by simp)]
    obtain ⟨b1, b2, b3, b4, b5, b6⟩ := c1
    refine ⟨k2, ⟨wI_at, ?_, ?_, ?_, ?_, ?_, ?_, ?_⟩, ?_, ?_, ?_, ⟨⟨?_, ?_, okN_app N 0 b5.1.2.2.1 (Or.inr ⟨by rw [n2, Nat.zero_add], hN⟩), fun x hx => ?_⟩, ?_, ?_, fun j n hj => ?_, fun j n hj => ?_⟩, ?_⟩
    · rw [hdf 1 (by decide)]; exact b1.2.1
    · rw [hdf 2 (by decide)]; exact b1.2.2.1
    · rw [hdf 7 (by decide)]; exact b1.2.2.2.1
    · rw [hdf 16 (by decide)]; exact b1.2.2.2.2.1
    · rw [hdf 17 (by decide)]; exact b1.2.2.2.2.2.1
    · rw [hdf 18 (by decide)]; exact b1.2.2.2.2.2.2.1
    · rw [hdf 19 (by decide)]; exact b1.2.2.2.2.2.2.2
    · intro k hk'; rw [hcc (d + 1) (by omega) (by omega), hcc (d + 2) (by omega) (by omega), hcc (d + 3) (by omega) (by omega)]; exact b2 k hk'
    · unfold dCF at b3 ⊢; rw [hdf 6 (by decide)]; exact b3
    · intro k hk'; rw [hcc (d + 4) (by omega) (by omega), hcc (d + 5) (by omega) (by omega), hcc (d + 6) (by omega) (by omega), hcc (d + 7) (by omega) (by omega), hcc (d + 8) (by omega) (by omega)]; exact b4 k hk'
    · rw [plN_p hN, List.length_append]; show (plN N).length + 1 ≤ 8; omega
    · rw [ghN_p hN]; exact b5.1.2.1
    · rcases List.mem_append.mp hx with z | z
      · exact b5.1.2.2.2 x z
      · rw [List.mem_singleton] at z; rw [z]; exact nm_ok hkd
    · rw [wI_at, plN_p hN, List.length_append, n2]; rfl
    · rw [hdf 2 (by decide), ghN_p hN]; exact b5.2.2.1
    · show μ2.2.1 9 j = _
      rw [plN_p hN] at hj
      by_cases ej : j = T 0 0
      · subst ej
        rw [List.getElem?_append_right (by omega), n2] at hj
        simp at hj
        rw [← hj]; exact gn
      · have hl : j < (plN N).length := by
          have := (List.getElem?_eq_some_iff.mp hj).1
          simp at this; omega
        rw [List.getElem?_append_left hl] at hj
        rw [e2 j ej]; exact b5.2.2.2.1 j n hj
    · show μ2.2.1 10 j = _
      rw [ghN_p hN] at hj
      rw [o2.2.2.2 10 (by simp)]; exact b5.2.2.2.2 j n hj
    · exact dCL_c b6 (fun c h1 h2 => ⟨hcc c (by omega) (by omega), by show μ2.2.1 c = _; rw [o2.2.2.2 c (by simp; omega)]⟩)
def tRc (Y : List Int32) (t : Nat) (w : Nat × Nat) (T : sT) (Lw : Nat → sLaw) (N : nL) : Except pF pS := bd (if T 0 1 = 12 then .error (2, pl Y t) else tke Y t) fun t1 => bd (olP Y NON t1 w N) fun a => bd (olP Y a.2.2 a.1 a.2.1 N) fun b => bd (nmb Y 1 9 b.1 b.2.1) fun h => bd (opt Y 22 h.1) fun f => bd (opt Y 23 f.1) fun g => .ok (g.1, h.2.1, rdT T a.2.2 b.2.2 h.2.2 f.2 g.2, Lw, N)
theorem c_X4_readRoad (hG : gGG G) {μ : jM} (hP : gPP μ) (h70 : d = 70 ∨ d = 91) (hd : tO gTold pTold G μ d) (q37 : μ.2.2 3 7 = some d) {t : Nat} (h : okC Y t w μ) (hc : dC d T Lw N μ) (hp : pOK Y t w T Lw N) (hk : kd Y t = 21) : jC0 l mX4_readRoad 4 G [.ref 3] μ (pV fun μ' => qC Y d (tRc Y t w T Lw N) μ' ∧ clF d μ μ') := by
  refine jC0.of' (ls := [.ref 3, .null]) rfl rfl rfl (fun _ _ => Nat.le_of_ble_eq_true rfl) ?_
  obtain ⟨a1, a2, a3, a4, a5, a6⟩ := id hc
  obtain ⟨-, -, ⟨t00, t01, t02, t03⟩, -, -, -⟩ := hp
  have e8 : μ.1 d 1 < 12 ↔ T 0 1 < 12 := by rw [a1.2.1]; exact nI_ltI (b := 12) (by omega) (by decide)
  have n0 : ∀ c ∈ ([] : List Nat), c = 9 ∨ c = 10 := fun c hc => by cases hc
  have hd70 : 70 ≤ d := by omega
  unfold tRc
  by_cases h8 : T 0 1 = 12
  · rw [if_pos h8]
    refine b_X4_readRoad_0 (ψ0 := fun _ => True) hG hP hd q37 (fun z => absurd (e8.mp z) (by omega)) (fun z => absurd (e8.mp z) (by omega)) (fun _ => c_X4_failHere hG hP h (k := 2) rfl (Or.inr rfl)) (fun _ μ1 h1 => ?_)
    exact b_X4_readRoad_19 hG (h1.2.gPP hP) ⟨h1.1, clF_3 h1.2 hd70 n0⟩
  rw [if_neg h8]
  have h12 : T 0 1 < 12 := by omega
  have ix : vp_in (nI (T 0 1)) 12 := vp_in_nI h12 (by decide)
  have cx : (nI (T 0 1)).toNatClampNeg = T 0 1 := nI_clamp (by omega)
  refine b_X4_readRoad_0 (ψ1 := fun _ => True) hG hP hd q37 (fun _ => c_X4_take hG hP h (by omega)) (fun _ μ1 h1 => ?_) (fun z => absurd (e8.mpr h12) z) (fun z => absurd (e8.mpr h12) z)
  obtain ⟨h1, o1⟩ := h1
  have P1 := o1.gPP hP
  have D1 := o1.tO hd
  have Q1 : μ1.2.2 3 7 = some d := by rw [o1.1]; exact q37
  have c1 := dC_3 hc o1 hd70
  have N1 := c1.2.2.2.2.1
  have f1 : clF d μ μ1 := clF_3 o1 hd70 n0
  have hu : uC Y (tke Y t) id (fun _ => w) μ1 := h1
  rw [a1.2.1]
  refine b_X4_readRoad_24 hG P1 D1 Q1 (v_readOldPlace (bb := fun _ => NON) hG P1 hd70 D1 Q1 hu N1 (fun a _ => ⟨nI_NON.symm, Or.inl rfl⟩)) ?_
  rintro v2 μ2 ⟨g2, h2, o2⟩
  have P2 := o2.gPP P1
  have D2 := o2.tO D1
  have Q2 : μ2.2.2 3 7 = some d := by rw [o2.1]; exact Q1
  have N2 := nmC_3 N1 o2 (by omega)
  have f2 := f1.trans (clF_3 o2 hd70 n0)
  obtain ⟨μ2', e2'⟩ : ∃ m, wI μ2 (d + 1) (T 0 1) v2 = m := ⟨_, rfl⟩
  have P2' : gPP μ2' := by rw [← e2']; exact gPP_of (μ := μ2) rfl P2
  have D2' : tO gTold pTold G μ2' d := by rw [← e2']; exact tO_of (μ := μ2) rfl D2
  have Q2' : μ2'.2.2 3 7 = some d := by rw [← e2']; exact Q2
  have N2' : nmC N d μ2' := by rw [← e2']; exact nmC_w N2 (by omega)
  have h2' := uC_w (c := d + 1) (i := T 0 1) (y := v2) h2 (by omega)
  rw [e2'] at h2'
  have f2' : clF d μ μ2' := by rw [← e2']; exact f2.trans (clF_w (by omega) (by omega))
  have l1 := N1.1.1
  have bb8 : ∀ {b : Nat} {tt : Nat} {ww : Nat × Nat} {r : Nat × (Nat × Nat) × Nat}, olP Y b tt ww N = .ok r → r.2.2 = NON ∨ r.2.2 < 8 := fun {b tt ww r} e => by
    unfold olP at e
    obtain ⟨t1, -, e⟩ := bd_inv e
    cases e
    rcases fid_in (plN N) (nm Y tt) 0 with z | z
    · exact Or.inl z
    · exact Or.inr (by show fid (plN N) (nm Y tt) 0 < 8; omega)
  refine b_X4_readRoad_37 hG P2 D2 Q2 ix ix (by rw [cx, wI_at, e2']; exact v_readOldPlace (bb := fun p => p.2.2.2) hG P2' hd70 D2' Q2' h2' N2' (fun p hp => ⟨g2 p hp, bb8 (px_inv hp).2⟩)) ?_
  rintro v3 μ3 ⟨g3, h3, o3⟩
  have P3 := o3.gPP P2'
  have D3 := o3.tO D2'
  have Q3 : μ3.2.2 3 7 = some d := by rw [o3.1]; exact Q2'
  have f3 := f2'.trans (clF_3 o3 hd70 n0)
  obtain ⟨μ3', e3'⟩ : ∃ m, wI μ3 (d + 2) (T 0 1) v3 = m := ⟨_, rfl⟩
  have P3' : gPP μ3' := by rw [← e3']; exact gPP_of (μ := μ3) rfl P3
  have h3' := uC_w (c := d + 2) (i := T 0 1) (y := v3) h3 (by omega)
  rw [e3'] at h3'
  have f3' : clF d μ μ3' := by rw [← e3']; exact f3.trans (clF_w (by omega) (by omega))
  refine b_X4_readRoad_59 hG P3 D3 Q3 ix (by rw [cx, e3']; exact v_readNumber (lo := 1) (hi := 9) hG P3' h3' rfl rfl (by decide) (by decide)) ?_
  rintro v4 μ4 ⟨g4, h4, o4⟩
  have P4 := o4.gPP P3'
  have D4 : tO gTold pTold G μ4 d := (f3'.trans (clF_3 o4 hd70 n0)).tO hd
  have f4 := f3'.trans (clF_3 o4 hd70 n0)
  obtain ⟨μ5, e5⟩ : ∃ m, wI μ4 (d + 3) (T 0 1) v4 = m := ⟨_, rfl⟩
  have P5 : gPP μ5 := by rw [← e5]; exact gPP_of (μ := μ4) rfl P4
  have h5 := uC_w (c := d + 3) (i := T 0 1) (y := v4) h4 (by omega)
  rw [e5] at h5
  have f5 : clF d μ μ5 := by rw [← e5]; exact f4.trans (clF_w (by omega) (by omega))
  have D5 := f5.tO hd
  have Q5 : μ5.2.2 3 7 = some d := by rw [f5.1]; exact q37
  generalize hx3 : (px (px (px (tke Y t) fun a => olP Y NON (id a) w N) fun p => olP Y p.2.2.2 p.2.1 p.2.2.1 N) fun p => nmb Y 1 9 p.2.1 p.2.2.1) = x3 at h5 g4
  have hspec : (bd (tke Y t) fun t1 => bd (olP Y NON t1 w N) fun a => bd (olP Y a.2.2 a.1 a.2.1 N) fun b => bd (nmb Y 1 9 b.1 b.2.1) fun h => bd (opt Y 22 h.1) fun f => bd (opt Y 23 f.1) fun g => (.ok (g.1, h.2.1, rdT T a.2.2 b.2.2 h.2.2 f.2 g.2, Lw, N) : Except pF pS)) = bd x3 fun p => bd (opt Y 22 p.2.1) fun f => bd (opt Y 23 f.1) fun g => .ok (g.1, p.2.2.1, rdT T p.1.1.2.2.2 p.1.2.2.2 p.2.2.2 f.2 g.2, Lw, N) := by
    rw [← hx3]; simp only [px_bd]; rfl
  rw [hspec]
  /- the ways behind a FAULT -/
  have bad109 : ∀ (f : pF) (μ6 : jM) (φ : jM → Prop), cB f μ6 → clF d μ μ6 → (∀ μ7, cB f μ7 → clF d μ μ7 → φ μ7) → J l mX4_readRoad (jZ0 4 G (pV φ)) G 0 0 109 [.ref 3, .int (nI (T 0 1))] [.int (-1)] μ6 := fun f μ6 φ m6 f6 K =>
    b_X4_readRoad_109 (ψ1 := fun _ => True) hG (f6.gPP hP) (f6.tO hd) (by rw [f6.1]; exact q37) (fun _ => K _ (cB_off m6 (cw_off (d := d) hd70)) (f6.trans (clF_w (Nat.le_refl _) (by omega)))) (fun z => absurd z (by decide)) (fun z => absurd z (by decide))
  have bad80 : ∀ (f : pF) (μ6 : jM) (φ : jM → Prop), cB f μ6 → clF d μ μ6 → (∀ μ7, cB f μ7 → clF d μ μ7 → φ μ7) → J l mX4_readRoad (jZ0 4 G (pV φ)) G 0 0 80 [.ref 3, .int (nI (T 0 1))] [.int (-1)] μ6 := fun f μ6 φ m6 f6 K => by
    refine b_X4_readRoad_80 (ψ1 := fun _ => True) hG (f6.gPP hP) (fun _ => d_X4_kindHere hG (f6.gPP hP) m6) (fun _ v μ7 hv => ?_) (fun z => absurd z (by decide)) (fun z => absurd z (by decide))
    obtain ⟨rfl, rfl⟩ := hv
    exact bad109 f _ φ m6 f6 K
  cases x3 with
  | error f =>
    have m5 : cB f μ5 := h5
    refine b_X4_readRoad_75 hG P4 D4 ix (by rw [cx, e5]; exact d_X4_kindHere hG P5 m5) (fun v μ6 hv => ?_)
    obtain ⟨rfl, rfl⟩ := hv
    exact bad80 f μ6 _ m5 f5 (fun μ7 m7 f7 => ⟨m7, f7⟩)
  | ok p =>
    have k5 : okC Y p.2.1 p.2.2.1 μ5 := h5
    rw [bd_ok]
    obtain ⟨x2, y3⟩ := px_inv hx3
    obtain ⟨x1, y2⟩ := px_inv x2
    have v2e := g2 _ x1
    have v3e := g3 _ x2
    have v4e := g4 _ rfl
    obtain ⟨A, hA⟩ : ∃ A, p.1.1.2.2.2 = A := ⟨_, rfl⟩
    obtain ⟨B, hB⟩ : ∃ B, p.1.2.2.2 = B := ⟨_, rfl⟩
    obtain ⟨H, hH⟩ : ∃ H, p.2.2.2 = H := ⟨_, rfl⟩
    rw [hA] at v2e; rw [hB] at v3e; rw [hH] at v4e
    rw [hA, hB, hH]
    refine b_X4_readRoad_75 hG P4 D4 ix (by rw [cx, e5]; exact c_X4_kindHere hG P5 k5) (fun v μ6 hv => ?_)
    obtain ⟨rfl, rfl⟩ := hv
    have hk43 := kd_in (Y := Y) (i := p.2.1)
    /- what the cells hold now -/
    have r1 : μ6.1 (d + 1) = upd (μ1.1 (d + 1)) (T 0 1) (nI A) := by rw [← e5, wI_ne (by omega), o4.2.1 (d + 1) (by omega) (by simp), ← e3', wI_ne (by omega), o3.2.1 (d + 1) (by omega) (by simp), ← e2', wI_eq, o2.2.1 (d + 1) (by omega) (by simp), v2e]
    have r2 : μ6.1 (d + 2) = upd (μ1.1 (d + 2)) (T 0 1) (nI B) := by rw [← e5, wI_ne (by omega), o4.2.1 (d + 2) (by omega) (by simp), ← e3', wI_eq, o3.2.1 (d + 2) (by omega) (by simp), ← e2', wI_ne (by omega), o2.2.1 (d + 2) (by omega) (by simp), v3e]
    have r3 : μ6.1 (d + 3) = upd (μ1.1 (d + 3)) (T 0 1) (nI H) := by rw [← e5, wI_eq, o4.2.1 (d + 3) (by omega) (by simp), ← e3', wI_ne (by omega), o3.2.1 (d + 3) (by omega) (by simp), ← e2', wI_ne (by omega), o2.2.1 (d + 3) (by omega) (by simp), v4e]
    have rr : ∀ c, 70 ≤ c → c ≠ d + 1 → c ≠ d + 2 → c ≠ d + 3 → μ6.1 c = μ1.1 c := fun c h0 h1 h2 h3 => by rw [← e5, wI_ne h3, o4.2.1 c (by omega) (by simp), ← e3', wI_ne h2, o3.2.1 c (by omega) (by simp), ← e2', wI_ne h1, o2.2.1 c (by omega) (by simp)]
    have rl : ∀ c, μ6.2.1 c = μ1.2.1 c := fun c => by rw [← e5]; show μ4.2.1 c = _; rw [o4.2.2.2 c (by simp), ← e3']; show μ3.2.1 c = _; rw [o3.2.2.2 c (by simp), ← e2']; show μ2.2.1 c = _; rw [o2.2.2.2 c (by simp)]
    obtain ⟨b1, b2, b3, b4, b5, b6⟩ := c1
    /- the end: which of FIELD and GATE were told -/
    have fin : ∀ (tf : Nat) (ff gg : Nat) (μ9 : jM), okC Y tf p.2.2.1 μ9 → (∀ c, 70 ≤ c → c ≠ d → μ9.1 c = μ6.1 c) → (∀ c, μ9.2.1 c = μ6.2.1 c) → (∀ f, f ≠ 1 → f ≠ 6 → f ≠ 7 → μ9.1 d f = μ6.1 d f) → μ9.1 d 1 = nI (T 0 1 + 1) → (ff = 0 ∧ μ9.1 d 6 = μ6.1 d 6 ∨ ff = 1 ∧ μ9.1 d 6 = (μ6.1 d 6) ||| (1 <<< (nI (T 0 1) &&& 31))) → μ9.1 d 7 = nI (T 0 3 + gg * 2 ^ T 0 1) → okC Y tf p.2.2.1 μ9 ∧ dC d (rdT T A B H ff gg) Lw N μ9 := by
      intro tf ff gg μ9 hk9 hc9 hl9 hf9 w1 w6 w7
      have w6' : ∀ k, k < 32 → bt (μ9.1 d 6) k = (bt (μ1.1 d 6) k || (decide (ff = 1) && decide (k = T 0 1))) := fun k hk' => by
        have er : μ6.1 d 6 = μ1.1 d 6 := by rw [rr d hd70 (by omega) (by omega) (by omega)]
        rcases w6 with ⟨z1, z2⟩ | ⟨z1, z2⟩
        · rw [z2, er, z1]; simp
        · rw [z2, b_or, b_one (by omega) hk', er, z1]; simp
      refine ⟨hk9, ⟨?_, w1, ?_, w7, ?_, ?_, ?_, ?_⟩, ?_, ⟨fun k hk' => ?_, fun k hk' h32 => ?_⟩, ?_, ?_, dCL_c b6 (fun c h1 h2 => ⟨by rw [hc9 c (by omega) (by omega), rr c (by omega) (by omega) (by omega) (by omega)], by rw [hl9, rl]⟩)⟩
      · rw [hf9 0 (by decide) (by decide) (by decide), rr d hd70 (by omega) (by omega) (by omega)]; exact b1.1
      · rw [hf9 2 (by decide) (by decide) (by decide), rr d hd70 (by omega) (by omega) (by omega)]; exact b1.2.2.1
      · rw [hf9 16 (by decide) (by decide) (by decide), rr d hd70 (by omega) (by omega) (by omega)]; exact b1.2.2.2.2.1
      · rw [hf9 17 (by decide) (by decide) (by decide), rr d hd70 (by omega) (by omega) (by omega)]; exact b1.2.2.2.2.2.1
      · rw [hf9 18 (by decide) (by decide) (by decide), rr d hd70 (by omega) (by omega) (by omega)]; exact b1.2.2.2.2.2.2.1
      · rw [hf9 19 (by decide) (by decide) (by decide), rr d hd70 (by omega) (by omega) (by omega)]; exact b1.2.2.2.2.2.2.2
      · intro k hk'
        have hk' : k < T 0 1 + 1 := hk'
        rw [hc9 (d + 1) (by omega) (by omega), hc9 (d + 2) (by omega) (by omega), hc9 (d + 3) (by omega) (by omega), r1, r2, r3]
        by_cases ek : k = T 0 1
        · subst ek
          rw [upd_at, upd_at, upd_at]
          have z1 : rdT T A B H ff gg 1 (T 0 1) = A := by simp [rdT, sT1]
          have z2 : rdT T A B H ff gg 2 (T 0 1) = B := by simp [rdT, sT1]
          have z3 : rdT T A B H ff gg 3 (T 0 1) = H := by simp [rdT, sT1]
          show nI A = nI (rdT T A B H ff gg 1 (T 0 1)) ∧ nI B = nI (rdT T A B H ff gg 2 (T 0 1)) ∧ nI H = nI (rdT T A B H ff gg 3 (T 0 1))
          rw [z1, z2, z3]; exact ⟨rfl, rfl, rfl⟩
        · have z : ∀ x, 1 ≤ x → rdT T A B H ff gg x k = T x k := fun x hx => by
            have hx0 : x ≠ 0 := by omega
            simp [rdT, sT1, ek, hx0]
          rw [upd_ne ek, upd_ne ek, upd_ne ek]
          show _ = nI (rdT T A B H ff gg 1 k) ∧ _ = nI (rdT T A B H ff gg 2 k) ∧ _ = nI (rdT T A B H ff gg 3 k)
          rw [z 1 (by decide), z 2 (by decide), z 3 (by decide)]
          exact b2 k (by omega)
      · have hk' : k < T 0 1 + 1 := hk'
        rw [w6' k (by omega)]
        by_cases ek : k = T 0 1
        · subst ek
          have z4 : rdT T A B H ff gg 4 (T 0 1) = ff := by simp [rdT, sT1]
          rw [b3.2 (T 0 1) (Nat.le_refl _) (by omega)]
          show _ = decide (rdT T A B H ff gg 4 (T 0 1) = 1)
          rw [z4]; simp
        · have z4 : rdT T A B H ff gg 4 k = T 4 k := by simp [rdT, sT1, ek]
          rw [b3.1 k (by omega)]
          show _ = decide (rdT T A B H ff gg 4 k = 1)
          rw [z4, decide_eq_false ek]; simp
      · have hk' : T 0 1 + 1 ≤ k := hk'
        rw [w6' k h32, b3.2 k (by omega) h32, decide_eq_false (show ¬ k = T 0 1 by omega)]; simp
      · intro k hk'
        rw [hc9 (d + 4) (by omega) (by omega), hc9 (d + 5) (by omega) (by omega), hc9 (d + 6) (by omega) (by omega), hc9 (d + 7) (by omega) (by omega), hc9 (d + 8) (by omega) (by omega), rr (d + 4) (by omega) (by omega) (by omega) (by omega), rr (d + 5) (by omega) (by omega) (by omega) (by omega), rr (d + 6) (by omega) (by omega) (by omega) (by omega), rr (d + 7) (by omega) (by omega) (by omega) (by omega), rr (d + 8) (by omega) (by omega) (by omega) (by omega)]
        exact b4 k hk'
      · unfold nmC at b5 ⊢
        rw [hf9 0 (by decide) (by decide) (by decide), hf9 2 (by decide) (by decide) (by decide), rr d hd70 (by omega) (by omega) (by omega), hl9, hl9, rl, rl]; exact b5
    have dd1 : μ6.1 d 1 = nI (T 0 1) := by rw [rr d hd70 (by omega) (by omega) (by omega)]; exact b1.2.1
    have dd7 : μ6.1 d 7 = nI (T 0 3) := by rw [rr d hd70 (by omega) (by omega) (by omega)]; exact b1.2.2.2.1
    /- behind FIELD: GATE -/
    have gate : ∀ (tf ff : Nat) (μ7 : jM), (ff = 0 ∨ ff = 1) → okC Y tf p.2.2.1 μ7 → clF d μ μ7 → (∀ c, 70 ≤ c → c ≠ d → μ7.1 c = μ6.1 c) → (∀ c, μ7.2.1 c = μ6.2.1 c) → (∀ f, f ≠ 6 → μ7.1 d f = μ6.1 d f) → (ff = 0 ∧ μ7.1 d 6 = μ6.1 d 6 ∨ ff = 1 ∧ μ7.1 d 6 = (μ6.1 d 6) ||| (1 <<< (nI (T 0 1) &&& 31))) → J l mX4_readRoad (jZ0 4 G (pV fun μ' => qC Y d (bd (opt Y 23 tf) fun g => .ok (g.1, p.2.2.1, rdT T A B H ff g.2, Lw, N)) μ' ∧ clF d μ μ')) G 0 0 109 [.ref 3, .int (nI (T 0 1))] [.int (kC (kd Y tf))] μ7 := by
      intro tf ff μ7 hff hk7 f7 hc7 hl7 hf7 w6
      have P7 := f7.gPP hP
      have D7 := f7.tO hd
      have Q7 : μ7.2.2 3 7 = some d := by rw [f7.1]; exact q37
      have tf43 := kd_in (Y := Y) (i := tf)
      have e71 : μ7.1 d 1 = nI (T 0 1) := by rw [hf7 1 (by decide)]; exact dd1
      by_cases k23 : kd Y tf = 23
      · have hz : kC (kd Y tf) = 131 := (k_131 _ tf43).mpr k23
        refine b_X4_readRoad_109 hG P7 D7 Q7 (fun z => absurd hz z) (fun _ => c_X4_take hG P7 hk7 (by omega)) (fun _ μ8 h8' => ?_)
        obtain ⟨h8', o8⟩ := h8'
        have f8 := f7.trans (clF_3 o8 hd70 n0)
        have P8 := f8.gPP hP
        have fz : clF d μ (wI (wI μ8 d 7 ((μ8.1 d 7) ||| (1 <<< (nI (T 0 1) &&& 31)))) d 1 (((wI μ8 d 7 ((μ8.1 d 7) ||| (1 <<< (nI (T 0 1) &&& 31)))).1 d 1) + 1)) := (f8.trans (clF_w (Nat.le_refl _) (by omega))).trans (clF_w (Nat.le_refl _) (by omega))
        refine b_X4_readRoad_119 hG P8 (f8.tO hd) (by rw [f8.1]; exact q37) ⟨?_, fz⟩
        have ow : cO3 [d] [] [] μ8 (wI (wI μ8 d 7 ((μ8.1 d 7) ||| (1 <<< (nI (T 0 1) &&& 31)))) d 1 (((wI μ8 d 7 ((μ8.1 d 7) ||| (1 <<< (nI (T 0 1) &&& 31)))).1 d 1) + 1)) := (cO3_wC (by omega) (by simp)).trans (cO3_wC (by omega) (by simp))
        have hopt : opt Y 23 tf = bd (tke Y tf) fun t1 => .ok (t1, 1) := by unfold opt; rw [if_pos k23]
        rw [hopt, bd_bd]
        cases et : tke Y tf with
        | error f => exact cB_off (pR_er h8' et) ow
        | ok t1 =>
          refine fin t1 ff 1 _ (okC_off (pR_ok h8' et) ow (by simp; omega) (by simp; omega)) (fun c h1 h2 => ?_) (fun c => ?_) (fun f h1 h2 h3 => ?_) ?_ ?_ ?_
          · rw [wI_ne h2, wI_ne h2, o8.2.1 c (by omega) (by simp)]; exact hc7 c h1 h2
          · show μ8.2.1 c = _; rw [o8.2.2.2 c (by simp)]; exact hl7 c
          · rw [wI_off' h1, wI_off' h3, o8.2.1 d (by omega) (by simp)]; exact hf7 f h2
          · rw [wI_at, wI_off' (by decide), o8.2.1 d (by omega) (by simp), e71, nI_inc]
          · rw [wI_off' (by decide), wI_off' (by decide), o8.2.1 d (by omega) (by simp)]; exact w6
          · rw [wI_off' (by decide), wI_at, o8.2.1 d (by omega) (by simp), hf7 7 (by decide), dd7, pow_sh (T 0 1) (by omega), or_add t03, Nat.one_mul]
      · have hz : ¬ kC (kd Y tf) = 131 := fun z => k23 ((k_131 _ tf43).mp z)
        refine b_X4_readRoad_109 (ψ1 := fun _ => True) hG P7 D7 Q7 (fun _ => ⟨?_, f7.trans (clF_w (Nat.le_refl _) (by omega))⟩) (fun z => absurd z hz) (fun z => absurd z hz)
        have hopt : opt Y 23 tf = .ok (tf, 0) := by unfold opt; rw [if_neg k23]
        rw [hopt, bd_ok]
        have ow : cO3 [d] [] [] μ7 (wI μ7 d 1 ((μ7.1 d 1) + 1)) := cO3_wC (by omega) (by simp)
        refine fin tf ff 0 _ (okC_off hk7 ow (by simp; omega) (by simp; omega)) (fun c h1 h2 => by rw [wI_ne h2]; exact hc7 c h1 h2) (fun c => hl7 c) (fun f h1 h2 h3 => by rw [wI_off' h1]; exact hf7 f h2) (by rw [wI_at, e71, nI_inc]) (by rw [wI_off' (by decide)]; exact w6) (by rw [wI_off' (by decide), hf7 7 (by decide), dd7, Nat.zero_mul, Nat.add_zero])
    by_cases k22 : kd Y p.2.1 = 22
    · have hz : kC (kd Y p.2.1) = 130 := (k_130 _ hk43).mpr k22
      have hopt : opt Y 22 p.2.1 = bd (tke Y p.2.1) fun t1 => .ok (t1, 1) := by unfold opt; rw [if_pos k22]
      refine b_X4_readRoad_80 (ψ0 := fun _ _ => True) hG P5 (fun z => absurd hz z) (fun z => absurd hz z) (fun _ => c_X4_take hG P5 k5 (by omega)) (fun _ μ7 h7 => ?_)
      obtain ⟨h7, o7⟩ := h7
      have f7 := f5.trans (clF_3 o7 hd70 n0)
      have P7 := f7.gPP hP
      obtain ⟨μ8, e8'⟩ : ∃ m, wI μ7 d 6 ((μ7.1 d 6) ||| (1 <<< (nI (T 0 1) &&& 31))) = m := ⟨_, rfl⟩
      have o8 : cO3 [d] [] [] μ7 μ8 := by rw [← e8']; exact cO3_wC (by omega) (by simp)
      have f8 : clF d μ μ8 := by rw [← e8']; exact f7.trans (clF_w (Nat.le_refl _) (by omega))
      have P8 := f8.gPP hP
      rw [hopt, bd_bd]
      cases et : tke Y p.2.1 with
      | error f =>
        have m8 : cB f μ8 := cB_off (pR_er h7 et) o8
        refine b_X4_readRoad_90 hG P7 (f7.tO hd) (by rw [f7.1]; exact q37) (by rw [e8']; exact d_X4_kindHere hG P8 m8) (fun v μ9 hv => ?_)
        obtain ⟨rfl, rfl⟩ := hv
        exact bad109 f μ9 _ m8 f8 (fun μ7 m7 f7 => ⟨m7, f7⟩)
      | ok t1 =>
        have k8 : okC Y t1 p.2.2.1 μ8 := okC_off (pR_ok h7 et) o8 (by simp; omega) (by simp; omega)
        refine b_X4_readRoad_90 hG P7 (f7.tO hd) (by rw [f7.1]; exact q37) (by rw [e8']; exact c_X4_kindHere hG P8 k8) (fun v μ9 hv => ?_)
        obtain ⟨rfl, rfl⟩ := hv
        refine gate t1 1 μ9 (Or.inr rfl) k8 f8 (fun c h1 h2 => ?_) (fun c => ?_) (fun f h1 => ?_) (Or.inr ⟨rfl, ?_⟩)
        · rw [← e8', wI_ne h2, o7.2.1 c (by omega) (by simp)]
        · rw [← e8']; show μ7.2.1 c = _; rw [o7.2.2.2 c (by simp)]
        · rw [← e8', wI_off' h1, o7.2.1 d (by omega) (by simp)]
        · rw [← e8', wI_at, o7.2.1 d (by omega) (by simp)]
    · have hz : ¬ kC (kd Y p.2.1) = 130 := fun z => k22 ((k_130 _ hk43).mp z)
      have hopt : opt Y 22 p.2.1 = .ok (p.2.1, 0) := by unfold opt; rw [if_neg k22]
      rw [hopt, bd_ok]
      refine b_X4_readRoad_80 (ψ1 := fun _ => True) hG P5 (fun _ => c_X4_kindHere hG P5 k5) (fun _ v μ7 hv => ?_) (fun z => absurd z hz) (fun z => absurd z hz)
      obtain ⟨rfl, rfl⟩ := hv
      exact gate p.2.1 0 μ7 (Or.inl rfl) k5 f5 (fun _ _ _ => rfl) (fun _ => rfl) (fun _ _ => rfl) (Or.inl ⟨rfl, rfl⟩)
end ClD
