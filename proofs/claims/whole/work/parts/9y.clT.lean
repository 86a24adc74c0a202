/-! THE CLASS reads: a telling -/
theorem dC_1 {d i x : Nat} {T : sT} {Lw : Nat → sLaw} {N : nL} {μ : jM} (hi : 4 ≤ i ∧ i ≤ 7) (h70 : 70 ≤ d) (h : dC d T Lw N μ) : dC d (sT1 T 0 i x) Lw N (wI μ d (12 + i) (nI x)) := by
  obtain ⟨a1, a2, a3, a4, a5, a6⟩ := h
  have q : ∀ j, j ≠ i → sT1 T 0 i x 0 j = T 0 j := fun j hj => by simp [sT1, hj]
  have q' : ∀ y z, y ≠ 0 → sT1 T 0 i x y z = T y z := fun y z hy => by simp [sT1, hy]
  have qi : sT1 T 0 i x 0 i = x := by simp [sT1]
  have cell : ∀ j, 4 ≤ j → j ≤ 7 → μ.1 d (12 + j) = nI (T 0 j) → (wI μ d (12 + i) (nI x)).1 d (12 + j) = nI (sT1 T 0 i x 0 j) := fun j h1 h2 h3 => by
    by_cases e : j = i
    · rw [e, qi, wI_at]
    · rw [q j e, wI_off' (by omega)]; exact h3
  refine ⟨⟨?_, ?_, ?_, ?_, cell 4 (by decide) (by decide) a1.2.2.2.2.1, cell 5 (by decide) (by decide) a1.2.2.2.2.2.1, cell 6 (by decide) (by decide) a1.2.2.2.2.2.2.1, cell 7 (by decide) (by decide) a1.2.2.2.2.2.2.2⟩, ?_, ?_, ?_, ?_, dCL_c a6 (fun c h1 _ => ⟨by rw [wI_ne (by omega)], rfl⟩)⟩
  · rw [q 0 (by omega), wI_off' (by omega)]; exact a1.1
  · rw [q 1 (by omega), wI_off' (by omega)]; exact a1.2.1
  · rw [q 2 (by omega), wI_off' (by omega)]; exact a1.2.2.1
  · rw [q 3 (by omega), wI_off' (by omega)]; exact a1.2.2.2.1
  · intro k hk
    rw [q 1 (by omega)] at hk
    rw [q' 1 k (by decide), q' 2 k (by decide), q' 3 k (by decide), wI_ne (by omega), wI_ne (by omega), wI_ne (by omega)]; exact a2 k hk
  · unfold dCF at a3 ⊢
    rw [q 1 (by omega), wI_off' (by omega)]
    exact ⟨fun k hk => by rw [q' 4 k (by decide)]; exact a3.1 k hk, a3.2⟩
  · intro k hk
    rw [q 2 (by omega)] at hk
    rw [q' 5 k (by decide), q' 6 k (by decide), q' 7 k (by decide), q' 8 k (by decide), q' 9 k (by decide), wI_ne (by omega), wI_ne (by omega), wI_ne (by omega), wI_ne (by omega), wI_ne (by omega)]; exact a4 k hk
  · unfold nmC at a5 ⊢
    rw [wI_off' (by omega), wI_off' (by omega)]; exact a5
theorem clF_wd {d i : Nat} {μ : jM} {x : Int32} : clF d μ (wI μ d i x) := clF_w (Nat.le_refl _) (by omega)
section ClT
variable {l : Launch} {G : jG} {Y : List Int32} {w : Nat × Nat} {d : Nat} {T : sT} {Lw : Nat → sLaw} {N : nL}
/-- the ';' behind a telling -/
def semi (Y : List Int32) (x : Except pF pS) : Except pF pS := bd x fun q => bd (xpc Y 4 q.1) fun t => .ok (t, q.2)
theorem v_semi (hG : gGG G) {μ0 μ : jM} (hP : gPP μ) (h70 : 70 ≤ d) {x : Except pF pS} (h : qC Y d x μ) (hf : clF d μ0 μ) : jC0 l mX4_expect 2 G [.ref 3, .int 59] μ (pI fun _ μ' => qC Y d (semi Y x) μ' ∧ clF d μ0 μ') := by
  have hu : uC Y x (fun q => q.1) (fun q => q.2.1) μ := pR_mono h (fun _ _ q => q.1) (fun _ q => q)
  refine (v_expect (k := 4) hG hP hu rfl (by decide)).mono (pI_mono fun v μ' h' => ⟨?_, hf.trans (clF_3 h'.2.1 h70 (fun c hc => by cases hc))⟩)
  unfold semi
  cases x with
  | error e => exact h'.1
  | ok q =>
    have h : okC Y q.1 q.2.1 μ ∧ dC d q.2.2.1 q.2.2.2.1 q.2.2.2.2 μ := h
    have r := h'.1
    rw [px_ok] at r
    rw [bd_ok]
    cases e : xpc Y 4 q.1 with
    | error f => rw [e] at r; exact r
    | ok t' => rw [e] at r; exact ⟨r, dC_3 h.2 h'.2.1 h70⟩
/-- a LAW of the draft is told -/
def tLc (Y : List Int32) (q t : Nat) (w : Nat × Nat) (T : sT) (Lw : Nat → sLaw) (N : nL) : Except pF pS := bd (bd (tke Y t) fun t1 => bd (xpc Y 5 t1) fun t2 => lwL Y 5 t2 []) fun r => .ok (r.1, w, T, (fun x => if x = q then r.2 else Lw x), N)
theorem c_lawD (hG : gGG G) {μ : jM} (hP : gPP μ) (h70 : d = 70 ∨ d = 91) (hd : tO gTold pTold G μ d) {t q : Nat} (hq : q < 3) (h : okC Y t w μ) (hc : dC d T Lw N μ) (hk : kd Y t ≠ 0 ∧ kd Y t ≠ 3) : jC0 l mX4_readLaw 4 G [.ref 3, .ref (lw d q)] μ (pV fun μ' => qC Y d (tLc Y q t w T Lw N) μ' ∧ clF d μ μ') := by
  have h79 : 79 ≤ lw d q := by unfold lw; omega
  refine (c_X4_readLaw (vs := vsQ q) hG hP h79 (tO_law hd hq) (hc.2.2.2.2.2 q hq).1.2.2.2 h hk).mono (pV_mono fun μ' h' => ⟨?_, clF_l h'.2 hq (by omega)⟩)
  unfold tLc
  cases ex : (bd (tke Y t) fun t1 => bd (xpc Y 5 t1) fun t2 => lwL Y 5 t2 []) with
  | error f => exact pR_er h'.1 ex
  | ok r =>
    obtain ⟨⟨k1, s1⟩, ky⟩ := pR_ok h'.1 ex
    obtain ⟨a1, a2, a3, a4, a5, a6⟩ := hc
    have o := h'.2
    have hcc : ∀ c, 70 ≤ c → c ≠ lw d q → c ≠ lw d q + 3 → μ'.1 c = μ.1 c := fun c h1 h2 h3 => o.2.1 c (by omega) (fun z => by omega) h2 h3
    have hlo : ∀ c, c ≠ lw d q → c ≠ lw d q + 1 → μ'.2.1 c = μ.2.1 c := o.2.2.2.2
    have e0 : ∀ c, c ≤ 8 → μ'.1 (d + c) = μ.1 (d + c) := fun c h1 => hcc (d + c) (by omega) (by unfold lw; omega) (by unfold lw; omega)
    have ed : μ'.1 d = μ.1 d := e0 0 (by decide)
    refine ⟨k1, ?_, ?_, ?_, ?_, ?_, fun q' hq' => ?_⟩
    · unfold dCI at a1 ⊢; rw [ed]; exact a1
    · unfold dCR at a2 ⊢; rw [e0 1 (by decide), e0 2 (by decide), e0 3 (by decide)]; exact a2
    · unfold dCF at a3 ⊢; rw [ed]; exact a3
    · unfold dCG at a4 ⊢; rw [e0 4 (by decide), e0 5 (by decide), e0 6 (by decide), e0 7 (by decide), e0 8 (by decide)]; exact a4
    · unfold nmC at a5 ⊢; rw [ed, hlo 9 (by omega) (by omega), hlo 10 (by omega) (by omega)]; exact a5
    · show lwS μ' (lw d q') (vsQ q') (cL (vsQ q') (if q' = q then r.2 else Lw q') 0) (uL (if q' = q then r.2 else Lw q')) ∧ _
      by_cases e : q' = q
      · subst e
        rw [if_pos rfl]; exact ⟨s1, ky⟩
      · rw [if_neg e]
        have := a6 q' hq'
        unfold lwS vsK at this ⊢
        rw [hcc (lw d q') (by unfold lw; omega) (by unfold lw; omega) (by unfold lw; omega), hcc (lw d q' + 3) (by unfold lw; omega) (by unfold lw; omega) (by unfold lw; omega), hlo (lw d q') (by unfold lw; omega) (by unfold lw; omega), hlo (lw d q' + 1) (by unfold lw; omega) (by unfold lw; omega)]
        exact this
theorem k_tel : ∀ k, k < 43 → ∀ c, c < 31 → okK k → 20 ≤ c → (kC k = nI (108 + c) ↔ k = c) := by decide +kernel
abbrev sJ (l : Launch) (G : jG) (Y : List Int32) (d t : Nat) (w : Nat × Nat) (T : sT) (Lw : Nat → sLaw) (N : nL) (μ : jM) (pc : Nat) (ls st : List Value) (μ1 : jM) : Prop := J l mX4_readTelling (jZ0 5 G (pV fun μ' => qC Y d (tll Y t w T Lw N) μ' ∧ clF d μ μ')) G 0 0 pc ls st μ1
theorem s_fog (hG : gGG G) {μ μ1 : jM} (hP : gPP μ) (h70 : d = 70 ∨ d = 91) (hd : tO gTold pTold G μ d) (q37 : μ.2.2 3 7 = some d) {t : Nat} (hc : dC d T Lw N μ) (hk : kd Y t = 28) (h1 : uC Y (tke Y t) id (fun _ => w) μ1) (o1 : cO3 [] gF [] μ μ1) : sJ l G Y d t w T Lw N μ 131 [.ref 3] [] μ1 := by
  have hd70 : 70 ≤ d := by omega
  have n0 : ∀ c ∈ ([] : List Nat), c = 9 ∨ c = 10 := fun c hc => by cases hc
  have P1 := o1.gPP hP
  have Q1 : μ1.2.2 3 7 = some d := by rw [o1.1]; exact q37
  refine b_X4_readTelling_131 hG P1 (o1.tO hd) Q1 (v_readNumber (lo := 0) (hi := 100) hG P1 h1 rfl rfl (by decide) (by decide)) ?_
  rintro v2 μ2 ⟨g2, h2, o2⟩
  have P2 := o2.gPP P1
  have f2 : clF d μ μ2 := (clF_3 o1 hd70 n0).trans (clF_3 o2 hd70 n0)
  have hq : qC Y d (bd (px (tke Y t) fun a => nmb Y 0 100 (id a) w) fun p => .ok (p.2.1, p.2.2.1, sT1 T 0 4 p.2.2.2, Lw, N)) (wI μ2 d 16 v2) := by
    have h2w := uC_w (c := d) (i := 16) (y := v2) h2 hd70
    cases ex : (px (tke Y t) fun a => nmb Y 0 100 (id a) w) with
    | error f => exact pR_er h2w ex
    | ok p =>
      have := g2 p ex
      subst this
      exact ⟨pR_ok h2w ex, dC_1 (i := 4) (by decide) hd70 (dC_3 (dC_3 hc o1 hd70) o2 hd70)⟩
  have Pw : gPP (wI μ2 d 16 v2) := gPP_of (μ := μ2) rfl P2
  refine b_X4_readTelling_142 hG P2 (f2.tO hd) (v_semi hG Pw hd70 hq (f2.trans clF_wd)) (fun v μ3 h3 => ?_)
  refine b_X4_readTelling_216 hG (h3.2.gPP hP) ⟨?_, h3.2⟩
  have htl : tll Y t w T Lw N = semi Y (bd (px (tke Y t) fun a => nmb Y 0 100 (id a) w) fun p => .ok (p.2.1, p.2.2.1, sT1 T 0 4 p.2.2.2, Lw, N)) := by
    unfold tll semi; rw [if_neg (by omega), if_neg (by omega), if_neg (by omega), if_pos hk]; unfold tlF; simp only [px_bd, bd_bd, bd_ok]; rfl
  rw [htl]; exact h3.1
theorem s_seed (hG : gGG G) {μ μ1 : jM} (hP : gPP μ) (h70 : d = 70 ∨ d = 91) (hd : tO gTold pTold G μ d) (q37 : μ.2.2 3 7 = some d) {t : Nat} (hc : dC d T Lw N μ) (hk : kd Y t = 30) (h1 : uC Y (tke Y t) id (fun _ => w) μ1) (o1 : cO3 [] gF [] μ μ1) : sJ l G Y d t w T Lw N μ 187 [.ref 3] [] μ1 := by
  have hd70 : 70 ≤ d := by omega
  have n0 : ∀ c ∈ ([] : List Nat), c = 9 ∨ c = 10 := fun c hc => by cases hc
  have P1 := o1.gPP hP
  have Q1 : μ1.2.2 3 7 = some d := by rw [o1.1]; exact q37
  refine b_X4_readTelling_187 hG P1 (o1.tO hd) Q1 (v_readNumber (lo := 0) (hi := 9999) hG P1 h1 rfl rfl (by decide) (by decide)) ?_
  rintro v2 μ2 ⟨g2, h2, o2⟩
  have P2 := o2.gPP P1
  have f2 : clF d μ μ2 := (clF_3 o1 hd70 n0).trans (clF_3 o2 hd70 n0)
  have hq : qC Y d (bd (px (tke Y t) fun a => nmb Y 0 9999 (id a) w) fun p => .ok (p.2.1, p.2.2.1, sT1 T 0 7 p.2.2.2, Lw, N)) (wI μ2 d 19 v2) := by
    have h2w := uC_w (c := d) (i := 19) (y := v2) h2 hd70
    cases ex : (px (tke Y t) fun a => nmb Y 0 9999 (id a) w) with
    | error f => exact pR_er h2w ex
    | ok p =>
      have := g2 p ex
      subst this
      exact ⟨pR_ok h2w ex, dC_1 (i := 7) (by decide) hd70 (dC_3 (dC_3 hc o1 hd70) o2 hd70)⟩
  have Pw : gPP (wI μ2 d 19 v2) := gPP_of (μ := μ2) rfl P2
  refine b_X4_readTelling_199 hG P2 (f2.tO hd) (v_semi hG Pw hd70 hq (f2.trans clF_wd)) (fun v μ3 h3 => ?_)
  refine b_X4_readTelling_216 hG (h3.2.gPP hP) ⟨?_, h3.2⟩
  have htl : tll Y t w T Lw N = semi Y (bd (px (tke Y t) fun a => nmb Y 0 9999 (id a) w) fun p => .ok (p.2.1, p.2.2.1, sT1 T 0 7 p.2.2.2, Lw, N)) := by
    unfold tll semi; rw [if_neg (by omega), if_neg (by omega), if_neg (by omega), if_neg (by omega), if_neg (by omega), if_pos hk]; unfold tlS; simp only [px_bd, bd_bd, bd_ok]; rfl
  rw [htl]; exact h3.1
theorem s_lamp (hG : gGG G) {μ μ1 : jM} (hP : gPP μ) (h70 : d = 70 ∨ d = 91) (hd : tO gTold pTold G μ d) (q37 : μ.2.2 3 7 = some d) {t : Nat} (hc : dC d T Lw N μ) (hk : kd Y t = 29) (h1 : uC Y (tke Y t) id (fun _ => w) μ1) (o1 : cO3 [] gF [] μ μ1) : sJ l G Y d t w T Lw N μ 152 [.ref 3] [] μ1 := by
  have hd70 : 70 ≤ d := by omega
  have n0 : ∀ c ∈ ([] : List Nat), c = 9 ∨ c = 10 := fun c hc => by cases hc
  have P1 := o1.gPP hP
  have Q1 : μ1.2.2 3 7 = some d := by rw [o1.1]; exact q37
  refine b_X4_readTelling_152 hG P1 (o1.tO hd) Q1 (v_readNumber (lo := 0) (hi := 100) hG P1 h1 rfl rfl (by decide) (by decide)) ?_
  rintro v2 μ2 ⟨g2, h2, o2⟩
  have P2 := o2.gPP P1
  have f2 : clF d μ μ2 := (clF_3 o1 hd70 n0).trans (clF_3 o2 hd70 n0)
  have Q2 : μ2.2.2 3 7 = some d := by rw [f2.1]; exact q37
  have h2w := uC_w (c := d) (i := 17) (y := v2) h2 hd70
  have Pw : gPP (wI μ2 d 17 v2) := gPP_of (μ := μ2) rfl P2
  refine b_X4_readTelling_163 hG P2 (f2.tO hd) Q2 (v_readNumber (lo := 0) (hi := 100) hG Pw h2w rfl rfl (by decide) (by decide)) ?_
  rintro v3 μ3 ⟨g3, h3, o3⟩
  have f3 : clF d μ μ3 := (f2.trans clF_wd).trans (clF_3 o3 hd70 n0)
  have P3 := f3.gPP hP
  have hq : qC Y d (bd (px (px (tke Y t) fun a => nmb Y 0 100 (id a) w) fun p => nmb Y 0 100 p.2.1 p.2.2.1) fun p => .ok (p.2.1, p.2.2.1, sT1 (sT1 T 0 5 p.1.2.2.2) 0 6 p.2.2.2, Lw, N)) (wI μ3 d 18 v3) := by
    have h3w := uC_w (c := d) (i := 18) (y := v3) h3 hd70
    cases ex : (px (px (tke Y t) fun a => nmb Y 0 100 (id a) w) fun p => nmb Y 0 100 p.2.1 p.2.2.1) with
    | error f => exact pR_er h3w ex
    | ok p =>
      have e3 := g3 p ex
      have e2 := g2 _ (px_inv ex).1
      subst e3; subst e2
      exact ⟨pR_ok h3w ex, dC_1 (i := 6) (by decide) hd70 (dC_3 (dC_1 (i := 5) (by decide) hd70 (dC_3 (dC_3 hc o1 hd70) o2 hd70)) o3 hd70)⟩
  have Pw3 : gPP (wI μ3 d 18 v3) := gPP_of (μ := μ3) rfl P3
  refine b_X4_readTelling_177 hG P3 (f3.tO hd) (v_semi hG Pw3 hd70 hq (f3.trans clF_wd)) (fun v μ4 h4 => ?_)
  refine b_X4_readTelling_216 hG (h4.2.gPP hP) ⟨?_, h4.2⟩
  have htl : tll Y t w T Lw N = semi Y (bd (px (px (tke Y t) fun a => nmb Y 0 100 (id a) w) fun p => nmb Y 0 100 p.2.1 p.2.2.1) fun p => .ok (p.2.1, p.2.2.1, sT1 (sT1 T 0 5 p.1.2.2.2) 0 6 p.2.2.2, Lw, N)) := by
    unfold tll semi; rw [if_neg (by omega), if_neg (by omega), if_neg (by omega), if_neg (by omega), if_pos hk]; unfold tlM; simp only [px_bd, bd_bd, bd_ok]; rfl
  rw [htl]; exact h4.1
theorem c_X4_readTelling (hG : gGG G) {μ : jM} (hP : gPP μ) (h70 : d = 70 ∨ d = 91) (hd : tO gTold pTold G μ d) (q37 : μ.2.2 3 7 = some d) {t : Nat} (h : okC Y t w μ) (hc : dC d T Lw N μ) (hp : pOK Y t w T Lw N) : jC0 l mX4_readTelling 5 G [.ref 3] μ (pV fun μ' => qC Y d (tll Y t w T Lw N) μ' ∧ clF d μ μ') := by
  refine jC0.of' (ls := [.ref 3]) rfl rfl rfl (fun _ _ => Nat.le_of_ble_eq_true rfl) ?_
  show sJ l G Y d t w T Lw N μ 0 [.ref 3] [] μ
  have hd70 : 70 ≤ d := by omega
  have hk43 := kd_in (Y := Y) (i := t)
  have n0 : ∀ c ∈ ([] : List Nat), c = 9 ∨ c = 10 := fun c hc => by cases hc
  refine b_X4_readTelling_0 hG hP (c_X4_kindHere hG hP h) (fun v μ0 hv => ?_)
  obtain ⟨rfl, rfl⟩ := hv
  have ke : ∀ (c : Nat) {z : Int32}, z = nI (108 + c) → 20 ≤ c → c < 31 → (kC (kd Y t) = z ↔ kd Y t = c) := fun c z hz h1 h2 => by rw [hz]; exact k_tel _ hk43 c h2 kd_ok h1
  have fin : ∀ (x : Except pF pS) (μ1 : jM) , tll Y t w T Lw N = semi Y x → ∀ (v : Int32) (μ2 : jM), (qC Y d (semi Y x) μ2 ∧ clF d μ0 μ2) → sJ l G Y d t w T Lw N μ0 216 [.null] [.int v] μ2 := fun x μ1 hx v μ2 h2 => b_X4_readTelling_216 hG (h2.2.gPP hP) ⟨by rw [hx]; exact h2.1, h2.2⟩
  have bad : tll Y t w T Lw N = .error (1, pl Y t) → tll Y t w T Lw N = semi Y (.error (1, pl Y t)) := fun e => by rw [e]; rfl
  have qb : ∀ μ1 : jM, cB (1, pl Y t) μ1 → qC Y d (.error (1, pl Y t)) μ1 := fun μ1 h => h
  by_cases hk : kd Y t = 20
  · have hX : kC (kd Y t) = 128 := (ke 20 rfl (by decide) (by decide)).mpr hk
    have htl : tll Y t w T Lw N = semi Y (tPc Y t w T Lw N) := by unfold tll semi; rw [if_pos hk]; unfold tlP tPc; split <;> first | (simp only [bd_bd, bd_ok]; done) | (simp only [bd_bd, bd_ok]; rfl) | rfl
    exact b_X4_readTelling_4 (ψ1 := fun _ => True) (ψ2 := fun _ => True) (ψ3 := fun _ => True) (ψ4 := fun _ => True) (ψ5 := fun _ => True) (ψ6 := fun _ => True) (ψ7 := fun _ => True) (ψ8 := fun _ => True) (ψ9 := fun _ => True) (ψ10 := fun _ => True) (ψ11 := fun _ => True) hG hP hd q37 (fun _ => c_X4_readPlace hG hP h70 hd q37 h hc hp hk) (fun _ => fun μ1 h1 => b_X4_readTelling_68 hG (h1.2.gPP hP) (v_semi hG (h1.2.gPP hP) hd70 h1.1 h1.2) (fin _ μ1 htl)) (fun z => absurd hX z) (fun z => absurd hX z) (fun z => absurd hX z) (fun z => absurd hX z) (fun z => absurd hX z) (fun z => absurd hX z) (fun z => absurd hX z) (fun z => absurd hX z) (fun z => absurd hX z) (fun z => absurd hX z) (fun z => absurd hX z) (fun z => absurd hX z) (fun z => absurd hX z) (fun z => absurd hX z) (fun z => absurd hX z) (fun z => absurd hX z) (fun z => absurd hX z) (fun z => absurd hX z) (fun z => absurd hX z) (fun z => absurd hX z) (fun z => absurd hX z) (fun z => absurd hX z)
  have n128 : ¬ kC (kd Y t) = 128 := fun z => hk ((ke 20 rfl (by decide) (by decide)).mp z)
  have m20 := hk
  clear hk
  by_cases hk : kd Y t = 21
  · have hX : kC (kd Y t) = 129 := (ke 21 rfl (by decide) (by decide)).mpr hk
    have htl : tll Y t w T Lw N = semi Y (tRc Y t w T Lw N) := by unfold tll semi; rw [if_neg (by omega), if_pos hk]; unfold tlR tRc; split <;> first | (simp only [bd_bd, bd_ok]; done) | (simp only [bd_bd, bd_ok]; rfl) | rfl
    exact b_X4_readTelling_4 (ψ0 := fun _ => True) (ψ2 := fun _ => True) (ψ3 := fun _ => True) (ψ4 := fun _ => True) (ψ5 := fun _ => True) (ψ6 := fun _ => True) (ψ7 := fun _ => True) (ψ8 := fun _ => True) (ψ9 := fun _ => True) (ψ10 := fun _ => True) (ψ11 := fun _ => True) hG hP hd q37 (fun z => absurd (hX.symm.trans z) (by decide)) (fun z => absurd (hX.symm.trans z) (by decide)) (fun _ _ => c_X4_readRoad hG hP h70 hd q37 h hc hp hk) (fun _ _ => fun μ1 h1 => b_X4_readTelling_75 hG (h1.2.gPP hP) (v_semi hG (h1.2.gPP hP) hd70 h1.1 h1.2) (fin _ μ1 htl)) (fun _ z => absurd hX z) (fun _ z => absurd hX z) (fun _ z => absurd hX z) (fun _ z => absurd hX z) (fun _ z => absurd hX z) (fun _ z => absurd hX z) (fun _ z => absurd hX z) (fun _ z => absurd hX z) (fun _ z => absurd hX z) (fun _ z => absurd hX z) (fun _ z => absurd hX z) (fun _ z => absurd hX z) (fun _ z => absurd hX z) (fun _ z => absurd hX z) (fun _ z => absurd hX z) (fun _ z => absurd hX z) (fun _ z => absurd hX z) (fun _ z => absurd hX z) (fun _ z => absurd hX z) (fun _ z => absurd hX z)
  have n129 : ¬ kC (kd Y t) = 129 := fun z => hk ((ke 21 rfl (by decide) (by decide)).mp z)
  have m21 := hk
  clear hk
  by_cases hk : kd Y t = 22
  · have hX : kC (kd Y t) = 130 := (ke 22 rfl (by decide) (by decide)).mpr hk
    have htl := bad (by unfold tll; rw [if_neg (by omega), if_neg (by omega), if_neg (by omega), if_neg (by omega), if_neg (by omega), if_neg (by omega), if_neg (by omega)])
    exact b_X4_readTelling_4 (ψ0 := fun _ => True) (ψ1 := fun _ => True) (ψ3 := fun _ => True) (ψ4 := fun _ => True) (ψ5 := fun _ => True) (ψ6 := fun _ => True) (ψ7 := fun _ => True) (ψ8 := fun _ => True) (ψ9 := fun _ => True) (ψ10 := fun _ => True) (ψ11 := fun _ => True) hG hP hd q37 (fun z => absurd (hX.symm.trans z) (by decide)) (fun z => absurd (hX.symm.trans z) (by decide)) (fun _ z => absurd (hX.symm.trans z) (by decide)) (fun _ z => absurd (hX.symm.trans z) (by decide)) (fun _ _ _ => c_X4_failHere hG hP h (k := 1) rfl (Or.inl rfl)) (fun _ _ _ => fun μ1 h1 => b_X4_readTelling_210 hG (h1.2.gPP hP) (v_semi hG (h1.2.gPP hP) hd70 (qb μ1 h1.1) (clF_3 h1.2 hd70 n0)) (fin _ μ1 htl)) (fun _ _ z => absurd hX z) (fun _ _ z => absurd hX z) (fun _ _ z => absurd hX z) (fun _ _ z => absurd hX z) (fun _ _ z => absurd hX z) (fun _ _ z => absurd hX z) (fun _ _ z => absurd hX z) (fun _ _ z => absurd hX z) (fun _ _ z => absurd hX z) (fun _ _ z => absurd hX z) (fun _ _ z => absurd hX z) (fun _ _ z => absurd hX z) (fun _ _ z => absurd hX z) (fun _ _ z => absurd hX z) (fun _ _ z => absurd hX z) (fun _ _ z => absurd hX z) (fun _ _ z => absurd hX z) (fun _ _ z => absurd hX z)
  have n130 : ¬ kC (kd Y t) = 130 := fun z => hk ((ke 22 rfl (by decide) (by decide)).mp z)
  have m22 := hk
  clear hk
  by_cases hk : kd Y t = 23
  · have hX : kC (kd Y t) = 131 := (ke 23 rfl (by decide) (by decide)).mpr hk
    have htl := bad (by unfold tll; rw [if_neg (by omega), if_neg (by omega), if_neg (by omega), if_neg (by omega), if_neg (by omega), if_neg (by omega), if_neg (by omega)])
    exact b_X4_readTelling_4 (ψ0 := fun _ => True) (ψ1 := fun _ => True) (ψ2 := fun _ => True) (ψ4 := fun _ => True) (ψ5 := fun _ => True) (ψ6 := fun _ => True) (ψ7 := fun _ => True) (ψ8 := fun _ => True) (ψ9 := fun _ => True) (ψ10 := fun _ => True) (ψ11 := fun _ => True) hG hP hd q37 (fun z => absurd (hX.symm.trans z) (by decide)) (fun z => absurd (hX.symm.trans z) (by decide)) (fun _ z => absurd (hX.symm.trans z) (by decide)) (fun _ z => absurd (hX.symm.trans z) (by decide)) (fun _ _ z => absurd (hX.symm.trans z) (by decide)) (fun _ _ z => absurd (hX.symm.trans z) (by decide)) (fun _ _ _ _ => c_X4_failHere hG hP h (k := 1) rfl (Or.inl rfl)) (fun _ _ _ _ => fun μ1 h1 => b_X4_readTelling_210 hG (h1.2.gPP hP) (v_semi hG (h1.2.gPP hP) hd70 (qb μ1 h1.1) (clF_3 h1.2 hd70 n0)) (fin _ μ1 htl)) (fun _ _ _ z => absurd hX z) (fun _ _ _ z => absurd hX z) (fun _ _ _ z => absurd hX z) (fun _ _ _ z => absurd hX z) (fun _ _ _ z => absurd hX z) (fun _ _ _ z => absurd hX z) (fun _ _ _ z => absurd hX z) (fun _ _ _ z => absurd hX z) (fun _ _ _ z => absurd hX z) (fun _ _ _ z => absurd hX z) (fun _ _ _ z => absurd hX z) (fun _ _ _ z => absurd hX z) (fun _ _ _ z => absurd hX z) (fun _ _ _ z => absurd hX z) (fun _ _ _ z => absurd hX z) (fun _ _ _ z => absurd hX z)
  have n131 : ¬ kC (kd Y t) = 131 := fun z => hk ((ke 23 rfl (by decide) (by decide)).mp z)
  have m23 := hk
  clear hk
  by_cases hk : kd Y t = 24
  · have hX : kC (kd Y t) = 132 := (ke 24 rfl (by decide) (by decide)).mpr hk
    have htl : tll Y t w T Lw N = semi Y (tGc Y t w T Lw N) := by unfold tll semi; rw [if_neg (by omega), if_neg (by omega), if_pos hk]; unfold tlG tGc; split <;> first | (simp only [bd_bd, bd_ok]; done) | (simp only [bd_bd, bd_ok]; rfl) | rfl
    exact b_X4_readTelling_4 (ψ0 := fun _ => True) (ψ1 := fun _ => True) (ψ2 := fun _ => True) (ψ3 := fun _ => True) (ψ5 := fun _ => True) (ψ6 := fun _ => True) (ψ7 := fun _ => True) (ψ8 := fun _ => True) (ψ9 := fun _ => True) (ψ10 := fun _ => True) (ψ11 := fun _ => True) hG hP hd q37 (fun z => absurd (hX.symm.trans z) (by decide)) (fun z => absurd (hX.symm.trans z) (by decide)) (fun _ z => absurd (hX.symm.trans z) (by decide)) (fun _ z => absurd (hX.symm.trans z) (by decide)) (fun _ _ z => absurd (hX.symm.trans z) (by decide)) (fun _ _ z => absurd (hX.symm.trans z) (by decide)) (fun _ _ _ z => absurd (hX.symm.trans z) (by decide)) (fun _ _ _ z => absurd (hX.symm.trans z) (by decide)) (fun _ _ _ _ _ => c_X4_readGhost hG hP h70 hd q37 h hc hp hk) (fun _ _ _ _ _ => fun μ1 h1 => b_X4_readTelling_82 hG (h1.2.gPP hP) (v_semi hG (h1.2.gPP hP) hd70 h1.1 h1.2) (fin _ μ1 htl)) (fun _ _ _ _ z => absurd hX z) (fun _ _ _ _ z => absurd hX z) (fun _ _ _ _ z => absurd hX z) (fun _ _ _ _ z => absurd hX z) (fun _ _ _ _ z => absurd hX z) (fun _ _ _ _ z => absurd hX z) (fun _ _ _ _ z => absurd hX z) (fun _ _ _ _ z => absurd hX z) (fun _ _ _ _ z => absurd hX z) (fun _ _ _ _ z => absurd hX z) (fun _ _ _ _ z => absurd hX z) (fun _ _ _ _ z => absurd hX z) (fun _ _ _ _ z => absurd hX z) (fun _ _ _ _ z => absurd hX z)
  have n132 : ¬ kC (kd Y t) = 132 := fun z => hk ((ke 24 rfl (by decide) (by decide)).mp z)
  have m24 := hk
  clear hk
  by_cases hk : kd Y t = 25
  · have hX : kC (kd Y t) = 133 := (ke 25 rfl (by decide) (by decide)).mpr hk
    have htl : tll Y t w T Lw N = semi Y (tLc Y 0 t w T Lw N) := by unfold tll semi; rw [if_neg (by omega), if_neg (by omega), if_neg (by omega), if_neg (by omega), if_neg (by omega), if_neg (by omega), if_pos (by omega), show kd Y t - 25 = 0 by omega]; unfold tlL tLc; simp only [bd_bd, bd_ok]
    exact b_X4_readTelling_4 (ψ0 := fun _ => True) (ψ1 := fun _ => True) (ψ2 := fun _ => True) (ψ3 := fun _ => True) (ψ4 := fun _ => True) (ψ6 := fun _ => True) (ψ7 := fun _ => True) (ψ8 := fun _ => True) (ψ9 := fun _ => True) (ψ10 := fun _ => True) (ψ11 := fun _ => True) hG hP hd q37 (fun z => absurd (hX.symm.trans z) (by decide)) (fun z => absurd (hX.symm.trans z) (by decide)) (fun _ z => absurd (hX.symm.trans z) (by decide)) (fun _ z => absurd (hX.symm.trans z) (by decide)) (fun _ _ z => absurd (hX.symm.trans z) (by decide)) (fun _ _ z => absurd (hX.symm.trans z) (by decide)) (fun _ _ _ z => absurd (hX.symm.trans z) (by decide)) (fun _ _ _ z => absurd (hX.symm.trans z) (by decide)) (fun _ _ _ _ z => absurd (hX.symm.trans z) (by decide)) (fun _ _ _ _ z => absurd (hX.symm.trans z) (by decide)) (fun _ _ _ _ _ _ => c_lawD (q := 0) hG hP h70 hd (by decide) h hc (by omega)) (fun _ _ _ _ _ _ => fun μ1 h1 => b_X4_readTelling_96 hG (h1.2.gPP hP) (v_semi hG (h1.2.gPP hP) hd70 h1.1 h1.2) (fin _ μ1 htl)) (fun _ _ _ _ _ z => absurd hX z) (fun _ _ _ _ _ z => absurd hX z) (fun _ _ _ _ _ z => absurd hX z) (fun _ _ _ _ _ z => absurd hX z) (fun _ _ _ _ _ z => absurd hX z) (fun _ _ _ _ _ z => absurd hX z) (fun _ _ _ _ _ z => absurd hX z) (fun _ _ _ _ _ z => absurd hX z) (fun _ _ _ _ _ z => absurd hX z) (fun _ _ _ _ _ z => absurd hX z) (fun _ _ _ _ _ z => absurd hX z) (fun _ _ _ _ _ z => absurd hX z)
  have n133 : ¬ kC (kd Y t) = 133 := fun z => hk ((ke 25 rfl (by decide) (by decide)).mp z)
  have m25 := hk
  clear hk
  by_cases hk : kd Y t = 26
  · have hX : kC (kd Y t) = 134 := (ke 26 rfl (by decide) (by decide)).mpr hk
    have htl : tll Y t w T Lw N = semi Y (tLc Y 1 t w T Lw N) := by unfold tll semi; rw [if_neg (by omega), if_neg (by omega), if_neg (by omega), if_neg (by omega), if_neg (by omega), if_neg (by omega), if_pos (by omega), show kd Y t - 25 = 1 by omega]; unfold tlL tLc; simp only [bd_bd, bd_ok]
    exact b_X4_readTelling_4 (ψ0 := fun _ => True) (ψ1 := fun _ => True) (ψ2 := fun _ => True) (ψ3 := fun _ => True) (ψ4 := fun _ => True) (ψ5 := fun _ => True) (ψ7 := fun _ => True) (ψ8 := fun _ => True) (ψ9 := fun _ => True) (ψ10 := fun _ => True) (ψ11 := fun _ => True) hG hP hd q37 (fun z => absurd (hX.symm.trans z) (by decide)) (fun z => absurd (hX.symm.trans z) (by decide)) (fun _ z => absurd (hX.symm.trans z) (by decide)) (fun _ z => absurd (hX.symm.trans z) (by decide)) (fun _ _ z => absurd (hX.symm.trans z) (by decide)) (fun _ _ z => absurd (hX.symm.trans z) (by decide)) (fun _ _ _ z => absurd (hX.symm.trans z) (by decide)) (fun _ _ _ z => absurd (hX.symm.trans z) (by decide)) (fun _ _ _ _ z => absurd (hX.symm.trans z) (by decide)) (fun _ _ _ _ z => absurd (hX.symm.trans z) (by decide)) (fun _ _ _ _ _ z => absurd (hX.symm.trans z) (by decide)) (fun _ _ _ _ _ z => absurd (hX.symm.trans z) (by decide)) (fun _ _ _ _ _ _ _ => c_lawD (q := 1) hG hP h70 hd (by decide) h hc (by omega)) (fun _ _ _ _ _ _ _ => fun μ1 h1 => b_X4_readTelling_110 hG (h1.2.gPP hP) (v_semi hG (h1.2.gPP hP) hd70 h1.1 h1.2) (fin _ μ1 htl)) (fun _ _ _ _ _ _ z => absurd hX z) (fun _ _ _ _ _ _ z => absurd hX z) (fun _ _ _ _ _ _ z => absurd hX z) (fun _ _ _ _ _ _ z => absurd hX z) (fun _ _ _ _ _ _ z => absurd hX z) (fun _ _ _ _ _ _ z => absurd hX z) (fun _ _ _ _ _ _ z => absurd hX z) (fun _ _ _ _ _ _ z => absurd hX z) (fun _ _ _ _ _ _ z => absurd hX z) (fun _ _ _ _ _ _ z => absurd hX z)
  have n134 : ¬ kC (kd Y t) = 134 := fun z => hk ((ke 26 rfl (by decide) (by decide)).mp z)
  have m26 := hk
  clear hk
  by_cases hk : kd Y t = 27
  · have hX : kC (kd Y t) = 135 := (ke 27 rfl (by decide) (by decide)).mpr hk
    have htl : tll Y t w T Lw N = semi Y (tLc Y 2 t w T Lw N) := by unfold tll semi; rw [if_neg (by omega), if_neg (by omega), if_neg (by omega), if_neg (by omega), if_neg (by omega), if_neg (by omega), if_pos (by omega), show kd Y t - 25 = 2 by omega]; unfold tlL tLc; simp only [bd_bd, bd_ok]
    exact b_X4_readTelling_4 (ψ0 := fun _ => True) (ψ1 := fun _ => True) (ψ2 := fun _ => True) (ψ3 := fun _ => True) (ψ4 := fun _ => True) (ψ5 := fun _ => True) (ψ6 := fun _ => True) (ψ8 := fun _ => True) (ψ9 := fun _ => True) (ψ10 := fun _ => True) (ψ11 := fun _ => True) hG hP hd q37 (fun z => absurd (hX.symm.trans z) (by decide)) (fun z => absurd (hX.symm.trans z) (by decide)) (fun _ z => absurd (hX.symm.trans z) (by decide)) (fun _ z => absurd (hX.symm.trans z) (by decide)) (fun _ _ z => absurd (hX.symm.trans z) (by decide)) (fun _ _ z => absurd (hX.symm.trans z) (by decide)) (fun _ _ _ z => absurd (hX.symm.trans z) (by decide)) (fun _ _ _ z => absurd (hX.symm.trans z) (by decide)) (fun _ _ _ _ z => absurd (hX.symm.trans z) (by decide)) (fun _ _ _ _ z => absurd (hX.symm.trans z) (by decide)) (fun _ _ _ _ _ z => absurd (hX.symm.trans z) (by decide)) (fun _ _ _ _ _ z => absurd (hX.symm.trans z) (by decide)) (fun _ _ _ _ _ _ z => absurd (hX.symm.trans z) (by decide)) (fun _ _ _ _ _ _ z => absurd (hX.symm.trans z) (by decide)) (fun _ _ _ _ _ _ _ _ => c_lawD (q := 2) hG hP h70 hd (by decide) h hc (by omega)) (fun _ _ _ _ _ _ _ _ => fun μ1 h1 => b_X4_readTelling_124 hG (h1.2.gPP hP) (v_semi hG (h1.2.gPP hP) hd70 h1.1 h1.2) (fin _ μ1 htl)) (fun _ _ _ _ _ _ _ z => absurd hX z) (fun _ _ _ _ _ _ _ z => absurd hX z) (fun _ _ _ _ _ _ _ z => absurd hX z) (fun _ _ _ _ _ _ _ z => absurd hX z) (fun _ _ _ _ _ _ _ z => absurd hX z) (fun _ _ _ _ _ _ _ z => absurd hX z) (fun _ _ _ _ _ _ _ z => absurd hX z) (fun _ _ _ _ _ _ _ z => absurd hX z)
  have n135 : ¬ kC (kd Y t) = 135 := fun z => hk ((ke 27 rfl (by decide) (by decide)).mp z)
  have m27 := hk
  clear hk
  by_cases hk : kd Y t = 28
  · have hX : kC (kd Y t) = 136 := (ke 28 rfl (by decide) (by decide)).mpr hk
    exact b_X4_readTelling_4 (ψ0 := fun _ => True) (ψ1 := fun _ => True) (ψ2 := fun _ => True) (ψ3 := fun _ => True) (ψ4 := fun _ => True) (ψ5 := fun _ => True) (ψ6 := fun _ => True) (ψ7 := fun _ => True) (ψ9 := fun _ => True) (ψ10 := fun _ => True) (ψ11 := fun _ => True) hG hP hd q37 (fun z => absurd (hX.symm.trans z) (by decide)) (fun z => absurd (hX.symm.trans z) (by decide)) (fun _ z => absurd (hX.symm.trans z) (by decide)) (fun _ z => absurd (hX.symm.trans z) (by decide)) (fun _ _ z => absurd (hX.symm.trans z) (by decide)) (fun _ _ z => absurd (hX.symm.trans z) (by decide)) (fun _ _ _ z => absurd (hX.symm.trans z) (by decide)) (fun _ _ _ z => absurd (hX.symm.trans z) (by decide)) (fun _ _ _ _ z => absurd (hX.symm.trans z) (by decide)) (fun _ _ _ _ z => absurd (hX.symm.trans z) (by decide)) (fun _ _ _ _ _ z => absurd (hX.symm.trans z) (by decide)) (fun _ _ _ _ _ z => absurd (hX.symm.trans z) (by decide)) (fun _ _ _ _ _ _ z => absurd (hX.symm.trans z) (by decide)) (fun _ _ _ _ _ _ z => absurd (hX.symm.trans z) (by decide)) (fun _ _ _ _ _ _ _ z => absurd (hX.symm.trans z) (by decide)) (fun _ _ _ _ _ _ _ z => absurd (hX.symm.trans z) (by decide)) (fun _ _ _ _ _ _ _ _ _ => c_X4_take hG hP h (by omega)) (fun _ _ _ _ _ _ _ _ _ => fun μ1 h1 => s_fog hG hP h70 hd q37 hc hk h1.1 h1.2) (fun _ _ _ _ _ _ _ _ z => absurd hX z) (fun _ _ _ _ _ _ _ _ z => absurd hX z) (fun _ _ _ _ _ _ _ _ z => absurd hX z) (fun _ _ _ _ _ _ _ _ z => absurd hX z) (fun _ _ _ _ _ _ _ _ z => absurd hX z) (fun _ _ _ _ _ _ _ _ z => absurd hX z)
  have n136 : ¬ kC (kd Y t) = 136 := fun z => hk ((ke 28 rfl (by decide) (by decide)).mp z)
  have m28 := hk
  clear hk
  by_cases hk : kd Y t = 29
  · have hX : kC (kd Y t) = 137 := (ke 29 rfl (by decide) (by decide)).mpr hk
    exact b_X4_readTelling_4 (ψ0 := fun _ => True) (ψ1 := fun _ => True) (ψ2 := fun _ => True) (ψ3 := fun _ => True) (ψ4 := fun _ => True) (ψ5 := fun _ => True) (ψ6 := fun _ => True) (ψ7 := fun _ => True) (ψ8 := fun _ => True) (ψ10 := fun _ => True) (ψ11 := fun _ => True) hG hP hd q37 (fun z => absurd (hX.symm.trans z) (by decide)) (fun z => absurd (hX.symm.trans z) (by decide)) (fun _ z => absurd (hX.symm.trans z) (by decide)) (fun _ z => absurd (hX.symm.trans z) (by decide)) (fun _ _ z => absurd (hX.symm.trans z) (by decide)) (fun _ _ z => absurd (hX.symm.trans z) (by decide)) (fun _ _ _ z => absurd (hX.symm.trans z) (by decide)) (fun _ _ _ z => absurd (hX.symm.trans z) (by decide)) (fun _ _ _ _ z => absurd (hX.symm.trans z) (by decide)) (fun _ _ _ _ z => absurd (hX.symm.trans z) (by decide)) (fun _ _ _ _ _ z => absurd (hX.symm.trans z) (by decide)) (fun _ _ _ _ _ z => absurd (hX.symm.trans z) (by decide)) (fun _ _ _ _ _ _ z => absurd (hX.symm.trans z) (by decide)) (fun _ _ _ _ _ _ z => absurd (hX.symm.trans z) (by decide)) (fun _ _ _ _ _ _ _ z => absurd (hX.symm.trans z) (by decide)) (fun _ _ _ _ _ _ _ z => absurd (hX.symm.trans z) (by decide)) (fun _ _ _ _ _ _ _ _ z => absurd (hX.symm.trans z) (by decide)) (fun _ _ _ _ _ _ _ _ z => absurd (hX.symm.trans z) (by decide)) (fun _ _ _ _ _ _ _ _ _ _ => c_X4_take hG hP h (by omega)) (fun _ _ _ _ _ _ _ _ _ _ => fun μ1 h1 => s_lamp hG hP h70 hd q37 hc hk h1.1 h1.2) (fun _ _ _ _ _ _ _ _ _ z => absurd hX z) (fun _ _ _ _ _ _ _ _ _ z => absurd hX z) (fun _ _ _ _ _ _ _ _ _ z => absurd hX z) (fun _ _ _ _ _ _ _ _ _ z => absurd hX z)
  have n137 : ¬ kC (kd Y t) = 137 := fun z => hk ((ke 29 rfl (by decide) (by decide)).mp z)
  have m29 := hk
  clear hk
  by_cases hk : kd Y t = 30
  · have hX : kC (kd Y t) = 138 := (ke 30 rfl (by decide) (by decide)).mpr hk
    exact b_X4_readTelling_4 (ψ0 := fun _ => True) (ψ1 := fun _ => True) (ψ2 := fun _ => True) (ψ3 := fun _ => True) (ψ4 := fun _ => True) (ψ5 := fun _ => True) (ψ6 := fun _ => True) (ψ7 := fun _ => True) (ψ8 := fun _ => True) (ψ9 := fun _ => True) (ψ11 := fun _ => True) hG hP hd q37 (fun z => absurd (hX.symm.trans z) (by decide)) (fun z => absurd (hX.symm.trans z) (by decide)) (fun _ z => absurd (hX.symm.trans z) (by decide)) (fun _ z => absurd (hX.symm.trans z) (by decide)) (fun _ _ z => absurd (hX.symm.trans z) (by decide)) (fun _ _ z => absurd (hX.symm.trans z) (by decide)) (fun _ _ _ z => absurd (hX.symm.trans z) (by decide)) (fun _ _ _ z => absurd (hX.symm.trans z) (by decide)) (fun _ _ _ _ z => absurd (hX.symm.trans z) (by decide)) (fun _ _ _ _ z => absurd (hX.symm.trans z) (by decide)) (fun _ _ _ _ _ z => absurd (hX.symm.trans z) (by decide)) (fun _ _ _ _ _ z => absurd (hX.symm.trans z) (by decide)) (fun _ _ _ _ _ _ z => absurd (hX.symm.trans z) (by decide)) (fun _ _ _ _ _ _ z => absurd (hX.symm.trans z) (by decide)) (fun _ _ _ _ _ _ _ z => absurd (hX.symm.trans z) (by decide)) (fun _ _ _ _ _ _ _ z => absurd (hX.symm.trans z) (by decide)) (fun _ _ _ _ _ _ _ _ z => absurd (hX.symm.trans z) (by decide)) (fun _ _ _ _ _ _ _ _ z => absurd (hX.symm.trans z) (by decide)) (fun _ _ _ _ _ _ _ _ _ z => absurd (hX.symm.trans z) (by decide)) (fun _ _ _ _ _ _ _ _ _ z => absurd (hX.symm.trans z) (by decide)) (fun _ _ _ _ _ _ _ _ _ _ _ => c_X4_take hG hP h (by omega)) (fun _ _ _ _ _ _ _ _ _ _ _ => fun μ1 h1 => s_seed hG hP h70 hd q37 hc hk h1.1 h1.2) (fun _ _ _ _ _ _ _ _ _ _ z => absurd hX z) (fun _ _ _ _ _ _ _ _ _ _ z => absurd hX z)
  have n138 : ¬ kC (kd Y t) = 138 := fun z => hk ((ke 30 rfl (by decide) (by decide)).mp z)
  have m30 := hk
  clear hk
  have htl := bad (by unfold tll; rw [if_neg (by omega), if_neg (by omega), if_neg (by omega), if_neg (by omega), if_neg (by omega), if_neg (by omega), if_neg (by omega)])
  exact b_X4_readTelling_4 (ψ0 := fun _ => True) (ψ1 := fun _ => True) (ψ2 := fun _ => True) (ψ3 := fun _ => True) (ψ4 := fun _ => True) (ψ5 := fun _ => True) (ψ6 := fun _ => True) (ψ7 := fun _ => True) (ψ8 := fun _ => True) (ψ9 := fun _ => True) (ψ10 := fun _ => True) hG hP hd q37 (fun z => absurd z n128) (fun z => absurd z n128) (fun _ z => absurd z n129) (fun _ z => absurd z n129) (fun _ _ z => absurd z n130) (fun _ _ z => absurd z n130) (fun _ _ _ z => absurd z n131) (fun _ _ _ z => absurd z n131) (fun _ _ _ _ z => absurd z n132) (fun _ _ _ _ z => absurd z n132) (fun _ _ _ _ _ z => absurd z n133) (fun _ _ _ _ _ z => absurd z n133) (fun _ _ _ _ _ _ z => absurd z n134) (fun _ _ _ _ _ _ z => absurd z n134) (fun _ _ _ _ _ _ _ z => absurd z n135) (fun _ _ _ _ _ _ _ z => absurd z n135) (fun _ _ _ _ _ _ _ _ z => absurd z n136) (fun _ _ _ _ _ _ _ _ z => absurd z n136) (fun _ _ _ _ _ _ _ _ _ z => absurd z n137) (fun _ _ _ _ _ _ _ _ _ z => absurd z n137) (fun _ _ _ _ _ _ _ _ _ _ z => absurd z n138) (fun _ _ _ _ _ _ _ _ _ _ z => absurd z n138) (fun _ _ _ _ _ _ _ _ _ _ _ => c_X4_failHere hG hP h (k := 1) rfl (Or.inl rfl)) (fun _ _ _ _ _ _ _ _ _ _ _ => fun μ1 h1 => b_X4_readTelling_210 hG (h1.2.gPP hP) (v_semi hG (h1.2.gPP hP) hd70 (qb μ1 h1.1) (clF_3 h1.2 hd70 n0)) (fin _ μ1 htl))
end ClT
