/-! THE CLASS ANSWERS: searches; meets, sheet -/
section ClsD
variable {l : Launch} {G : jG}
theorem i32_nlt {x y : Int32} (h : ¬ y < x) : x ≤ y := by rw [i32_lt] at h; rw [i32_le]; omega
theorem srI.pr {μ μ1 : jM} {t B : Nat} {T : sT} {Lw : Nat → sLaw} {S : sR} {q : Int32} {v : Int32 × Int32} (h : srI G μ t T Lw S B q v μ1) : (μ1.1 57 0, μ1.1 57 1) = v := by
  obtain ⟨-, -, -, -, h0, h1⟩ := h
  rw [h0, h1]
theorem sr_all {a : aS} {B t d : Nat} {μ μ1 : jM} {q : Int32} {v : Int32 × Int32} (hc : cJ G a B t d μ) (h : srI G μ t (gT a) (gL a) (gS a) B q v μ1) (ha : anI μ1 (gT a) (gL a) (gS a)) : cJ G a B t d μ1 ∧ gPP μ1 ∧ hiC μ μ1 := by
  obtain ⟨h1, h2⟩ := cJ_q hc h.2.1 h.2.2.1 ha
  exact ⟨h1, h.1, h2⟩
theorem c_X11_put (hG : gGG G) {μ : jM} (hP : gPP μ) {a : aS} {B t d : Nat} (hc : cJ G a B t d μ) (x y u : Int32) : jC0 l mX11_put 7 G [.ref 0, .int x, .int y, .int u] μ (pI fun z μ' => z = rPut (gT a) (gL a) (gS a) x y u ∧ cJ G a B t d μ' ∧ gPP μ' ∧ hiC μ μ') := by
  refine jC0.of' (ls := [.ref 0, .int x, .int y, .int u, .null]) rfl rfl rfl (fun _ _ => Nat.le_of_ble_eq_true rfl) ?_
  have hf := hc.1
  have hx0 := hf.1.2.2.1
  have hv := hx0.2.2.2.2.2
  have h12 := hv.1.2.1
  have st := And.intro hc (And.intro hP (hiC.refl (μ := μ)))
  have han := hc.2.2.2.2.2.2.2.2.2.1
  have e1 : μ.1 t 1 = nI (gT a 0 1) := hx0.2.1.2.1
  have bad : rPut (gT a) (gL a) (gS a) x y u = -1 → J l mX11_put (jZ0 7 G (pI fun z μ' => z = rPut (gT a) (gL a) (gS a) x y u ∧ cJ G a B t d μ' ∧ gPP μ' ∧ hiC μ μ')) G 0 0 42 [.null, .null, .null, .null, .null] [] μ := fun e => b_X11_put_42 hG hP ⟨e.symm, st⟩
  have no : rPut (gT a) (gL a) (gS a) x y u = -1 → J l mX11_put (jZ0 7 G (pI fun z μ' => z = rPut (gT a) (gL a) (gS a) x y u ∧ cJ G a B t d μ' ∧ gPP μ' ∧ hiC μ μ')) G 0 0 25 [.ref 0, .int x, .int y, .int u, .null] [] μ := fun e => by
    refine b_X11_put_25 hG hP ?_
    exact b_X11_put_26 (ψ2 := fun _ => True) hG hP hf.1.1 hf.1.2.1 (fun _ => bad e) (fun h => absurd rfl h) (fun h => absurd rfl h) (fun h => absurd rfl h) (fun h => absurd rfl h) (fun h => absurd rfl h)
  have ny : (∃ k, k < 4 ∧ k ≠ 0 ∧ x = nI k) → (¬ ∃ k, k < 10 ∧ k ≠ 0 ∧ y = nI k) → rPut (gT a) (gL a) (gS a) x y u = -1 := by
    rintro ⟨g, hg, hg0, rfl⟩ hy
    rw [show rPut (gT a) (gL a) (gS a) (nI g) y u = _ from gIf_in1 hg (by decide) hg0]
    exact gIf_no1 (by decide) hy
  have nu : (∃ k, k < 4 ∧ k ≠ 0 ∧ x = nI k) → (∃ k, k < 10 ∧ k ≠ 0 ∧ y = nI k) → ¬ isN u 2 → rPut (gT a) (gL a) (gS a) x y u = -1 := by
    rintro ⟨g, hg, hg0, rfl⟩ ⟨n, hn, hn0, rfl⟩ hu
    rw [show rPut (gT a) (gL a) (gS a) (nI g) (nI n) u = _ from gIf_in1 hg (by decide) hg0, gIf_in1 hn (by decide) hn0, gIf_out hu]
  have okx : ¬ x < 1 → ¬ (3 : Int32) < x → ∃ k, k < 4 ∧ k ≠ 0 ∧ x = nI k := fun h0 h1 => one_ok (b := 3) (n := 3) (by decide) rfl h0 (i32_nlt h1)
  have oky : ¬ y < 1 → ¬ (9 : Int32) < y → ∃ k, k < 10 ∧ k ≠ 0 ∧ y = nI k := fun h0 h1 => one_ok (b := 9) (n := 9) (by decide) rfl h0 (i32_nlt h1)
  refine b_X11_put_0 hG hP (fun h => no (gIf_no1 (by decide) (one_lt (by decide) h))) (fun _ h => no (gIf_no1 (by decide) (one_gt (n := 3) (by decide) rfl h))) (fun h0 h1 h => no (ny (okx h0 h1) (one_lt (by decide) h))) (fun h0 h1 _ h => no (ny (okx h0 h1) (one_gt (n := 9) (by decide) rfl h))) (fun h0 h1 h2 h3 => ?_)
  obtain ⟨g, hg, hg0, rfl⟩ := okx h0 h1
  obtain ⟨n, hn, hn0, rfl⟩ := oky h2 h3
  have hle : (nI g ≤ μ.1 t 1) ↔ g ≤ gT a 0 1 := by rw [e1]; exact nI_leI (by omega) (by omega)
  refine b_X11_put_26 hG hP hf.1.1 hf.1.2.1 (fun h => absurd h (by decide)) (fun _ h => bad (nu ⟨g, hg, hg0, rfl⟩ ⟨n, hn, hn0, rfl⟩ (isN_lt h (by decide)))) (fun _ _ _ _ => c_X1_seekGates hG hP hf (g := g) (n := n) (by omega) (by omega) (han g n (by omega) (by omega))) (fun _ u0 u1 hgr => ?_) (fun _ u0 u1 hgr => ⟨?_, st⟩) (fun _ _ h => bad (nu ⟨g, hg, hg0, rfl⟩ ⟨n, hn, hn0, rfl⟩ (isN_big (n := 1) (by decide) rfl h)))
  · obtain ⟨w, hw, rfl⟩ := isN_ok (n := 1) (by decide) rfl u0 u1
    have w0 : nI w = 0 ↔ w = 0 := nI_eq (b := 0) (by omega) (by decide)
    intro μ2 h2
    obtain ⟨hc2, hP2, hi2⟩ := sr_all hc h2 (anI_put (by omega) (by omega) h2.2.2.2.1 h2.pr)
    have ev : rPut (gT a) (gL a) (gS a) (nI g) (nI n) (nI w) = if w = 0 then (kmF (putF (gT a) (gL a) (gS a) n) (putP g) (2 ^ gT a 0 1)).1 else (kmF (putF (gT a) (gL a) (gS a) n) (putP g) (2 ^ gT a 0 1)).2 := by
      rw [show rPut (gT a) (gL a) (gS a) (nI g) (nI n) (nI w) = _ from gIf_in1 hg (by decide) hg0, gIf_in1 hn (by decide) hn0, gIf_in hw (by decide), if_neg (by have := hle.mp hgr; omega)]
    rw [ev]
    refine b_X11_put_70 hG hP2 (fun h => b_X11_put_91 hG hP2 ⟨?_, hc2, hP2, hi2⟩) (fun h => b_X11_put_91 hG hP2 ⟨?_, hc2, hP2, hi2⟩)
    · rw [if_neg (fun z => h (w0.mpr z))]; exact h2.2.2.2.2.2
    · rw [if_pos (w0.mp h)]; exact h2.2.2.2.2.1
  · obtain ⟨w, hw, rfl⟩ := isN_ok (n := 1) (by decide) rfl u0 u1
    rw [show rPut (gT a) (gL a) (gS a) (nI g) (nI n) (nI w) = _ from gIf_in1 hg (by decide) hg0, gIf_in1 hn (by decide) hn0, gIf_in hw (by decide), if_pos (by have hh : ¬ g ≤ gT a 0 1 := fun z => hgr (hle.mpr z); omega)]
theorem c_X11_stop (hG : gGG G) {μ : jM} (hP : gPP μ) {a : aS} {B t d : Nat} (hc : cJ G a B t d μ) (x : Int32) : jC0 l mX11_stop 7 G [.ref 0, .int x] μ (pI fun z μ' => z = rStop (gT a) (gL a) (gS a) x ∧ cJ G a B t d μ' ∧ gPP μ' ∧ hiC μ μ') := by
  refine jC0.of' (ls := [.ref 0, .int x]) rfl rfl rfl (fun _ _ => Nat.le_of_ble_eq_true rfl) ?_
  have st := And.intro hc (And.intro hP (hiC.refl (μ := μ)))
  have han := hc.2.2.2.2.2.2.2.2.2.2.2.2.2.2
  refine b_X11_stop_0 hG hP (fun h => ⟨(gIf_out (isN_lt h (by decide))).symm, st⟩) (fun _ _ => c_X1_seekStop hG hP hc.1 han) (fun h0 h1 => ?_) (fun _ h => ⟨(gIf_out (isN_big (n := 1) (by decide) rfl h)).symm, st⟩)
  obtain ⟨w, hw, rfl⟩ := isN_ok (n := 1) (by decide) rfl h0 h1
  have w0 : nI w = 0 ↔ w = 0 := nI_eq (b := 0) (by omega) (by decide)
  rw [show rStop (gT a) (gL a) (gS a) (nI w) = _ from gIf_in hw (by decide)]
  intro μ2 h2
  have st2 := sr_all hc h2 (anI_stp h2.2.2.2.1 h2.pr)
  refine b_X11_stop_18 hG h2.1 (fun h => ⟨?_, st2⟩) (fun h => ⟨?_, st2⟩)
  · rw [if_neg (fun z => h (w0.mpr z))]; exact h2.2.2.2.2.2
  · rw [if_pos (w0.mp h)]; exact h2.2.2.2.2.1
theorem c_X11_first (hG : gGG G) {μ : jM} (hP : gPP μ) {a : aS} {B t d : Nat} (hc : cJ G a B t d μ) (x : Int32) : jC0 l mX11_first 6 G [.ref 0, .int x] μ (pI fun z μ' => z = rFirst (gT a) (gL a) (gS a) x ∧ cJ G a B t d μ' ∧ gPP μ' ∧ hiC μ μ') := by
  refine jC0.of' (ls := [.ref 0, .int x]) rfl rfl rfl (fun _ _ => Nat.le_of_ble_eq_true rfl) ?_
  have st := And.intro hc (And.intro hP (hiC.refl (μ := μ)))
  have han := hc.2.2.2.2.2.2.2.2.2.2.2.2.2.1
  refine b_X11_first_0 hG hP (fun h => ⟨(gIf_out (isN_lt h (by decide))).symm, st⟩) (fun _ _ => c_X1_seekFirstBroken hG hP hc.1 han) (fun h0 h1 => ?_) (fun _ h => ⟨(gIf_out (isN_big (n := 1) (by decide) rfl h)).symm, st⟩)
  obtain ⟨w, hw, rfl⟩ := isN_ok (n := 1) (by decide) rfl h0 h1
  have w0 : nI w = 0 ↔ w = 0 := nI_eq (b := 0) (by omega) (by decide)
  rw [show rFirst (gT a) (gL a) (gS a) (nI w) = _ from gIf_in hw (by decide)]
  obtain ⟨V, hV⟩ : ∃ V, V = fstV (gT a) (gL a) (gS a) := ⟨_, rfl⟩
  rw [← hV]
  intro μ2 h2
  rw [hV] at h2
  have st2 := sr_all hc h2 (anI_fst h2.2.2.2.1 h2.pr)
  rw [← hV] at h2
  refine b_X11_first_18 hG h2.1 (fun h => ⟨?_, st2⟩) (fun h => ⟨?_, st2⟩)
  · rw [if_neg (fun z => h (w0.mpr z))]; exact h2.2.2.2.2.1
  · rw [if_pos (w0.mp h)]; exact h2.2.2.2.2.2
theorem c_X11_busiest (hG : gGG G) {μ : jM} (hP : gPP μ) {a : aS} {B t d : Nat} (hc : cJ G a B t d μ) (x y : Int32) : jC0 l mX11_busiest 7 G [.ref 0, .int x, .int y] μ (pI fun z μ' => z = rBusiest (gT a) (gL a) (gS a) x y ∧ cJ G a B t d μ' ∧ gPP μ' ∧ hiC μ μ') := by
  refine jC0.of' (ls := [.ref 0, .int x, .int y]) rfl rfl rfl (fun _ _ => Nat.le_of_ble_eq_true rfl) ?_
  have hf := hc.1
  have hx0 := hf.1.2.2.1
  have h12 := hx0.2.2.2.2.2.1.2.1
  have st := And.intro hc (And.intro hP (hiC.refl (μ := μ)))
  have han := hc.2.2.2.2.2.2.2.2.2.2.2.1
  have inx : ¬ x < 0 → ¬ (60 : Int32) < x → isN x 61 := fun h0 h1 => isN_no (n := 60) (by decide) h0 h1
  have yno : isN x 61 → ¬ isN y 2 → rBusiest (gT a) (gL a) (gS a) x y = -1 := fun hx hy => by
    obtain ⟨n, hn, rfl⟩ := hx
    rw [show rBusiest (gT a) (gL a) (gS a) (nI n) y = _ from gIf_in hn (by decide)]
    exact gIf_out hy
  have r0 : μ.1 t 1 = 0 ↔ gT a 0 1 = 0 := by rw [hx0.2.1.2.1]; exact nI_eq (b := 0) (by omega) (by decide)
  have sk : isN x 61 → jC0 l mX1_seekBusiest 6 G [.ref 57, .int x] μ (pV fun μ' => ∀ n, n < 61 → x = nI n → srI G μ t (gT a) (gL a) (gS a) B (nI (300 + n)) (kmF (busF (gT a) (gL a) (gS a) n) allP (gT a 0 1)) μ') := by
    rintro ⟨n, hn, rfl⟩
    refine (c_X1_seekBusiest hG hP hf (n := n) (by omega) (han n (by omega))).mono (pV_mono ?_)
    intro μ' h n' hn' e
    have : n = n' := (nI_eq (by omega) (by omega)).mp e
    subst this; exact h
  refine b_X11_busiest_0 hG hP hf.1.1 hf.1.2.1 (fun h => ⟨(gIf_out (isN_lt h (by decide))).symm, st⟩) (fun _ h => ⟨(gIf_out (isN_big' (n := 60) (by decide) rfl h)).symm, st⟩) (fun h0 h1 h => ⟨(yno (inx h0 h1) (isN_lt h (by decide))).symm, st⟩) (fun h0 h1 _ _ _ => sk (inx h0 h1)) (fun h0 h1 h2 h3 h4 => ?_) (fun h0 h1 h2 h3 h4 => ⟨?_, st⟩) (fun h0 h1 h2 h => ⟨(yno (inx h0 h1) (isN_big (n := 1) (by decide) rfl h)).symm, st⟩)
  · obtain ⟨n, hn, rfl⟩ := inx h0 h1
    obtain ⟨w, hw, rfl⟩ := isN_ok (n := 1) (by decide) rfl h2 h3
    have w0 : nI w = 0 ↔ w = 0 := nI_eq (b := 0) (by omega) (by decide)
    rw [show rBusiest (gT a) (gL a) (gS a) (nI n) (nI w) = _ from gIf_in hn (by decide), gIf_in hw (by decide), if_neg (fun z => h4 (r0.mpr z))]
    intro μ2 h2'
    have h2 := h2' n hn rfl
    have st2 := sr_all hc h2 (anI_bus (by omega) h2.2.2.2.1 h2.pr)
    refine b_X11_busiest_45 hG h2.1 (fun h => ⟨?_, st2⟩) (fun h => ⟨?_, st2⟩)
    · rw [if_neg (fun z => h (w0.mpr z))]; exact h2.2.2.2.2.1
    · rw [if_pos (w0.mp h)]; exact h2.2.2.2.2.2
  · obtain ⟨n, hn, rfl⟩ := inx h0 h1
    obtain ⟨w, hw, rfl⟩ := isN_ok (n := 1) (by decide) rfl h2 h3
    rw [show rBusiest (gT a) (gL a) (gS a) (nI n) (nI w) = _ from gIf_in hn (by decide), gIf_in hw (by decide), if_pos (r0.mp h4)]
theorem c_X11_best (hG : gGG G) {μ : jM} (hP : gPP μ) {a : aS} {B t d : Nat} (hc : cJ G a B t d μ) (x y : Int32) : jC0 l mX11_best 7 G [.ref 0, .int x, .int y] μ (pI fun z μ' => z = rBest (gT a) (gL a) (gS a) x y ∧ cJ G a B t d μ' ∧ gPP μ' ∧ hiC μ μ') := by
  refine jC0.of' (ls := [.ref 0, .int x, .int y]) rfl rfl rfl (fun _ _ => Nat.le_of_ble_eq_true rfl) ?_
  have hf := hc.1
  have st := And.intro hc (And.intro hP (hiC.refl (μ := μ)))
  have han := hc.2.2.2.2.2.2.2.2.2.2.1
  have okx : ¬ x < 1 → ¬ (30 : Int32) < x → ∃ k, k < 31 ∧ k ≠ 0 ∧ x = nI k := fun h0 h1 => one_ok (b := 30) (n := 30) (by decide) rfl h0 (i32_nlt h1)
  have yno : (∃ k, k < 31 ∧ k ≠ 0 ∧ x = nI k) → ¬ isN y 2 → rBest (gT a) (gL a) (gS a) x y = -1 := by
    rintro ⟨n, hn, hn0, rfl⟩ hy
    rw [show rBest (gT a) (gL a) (gS a) (nI n) y = _ from gIf_in1 hn (by decide) hn0]
    exact gIf_out hy
  have sk : (∃ k, k < 31 ∧ k ≠ 0 ∧ x = nI k) → jC0 l mX1_seekRate 6 G [.ref 57, .int x] μ (pV fun μ' => ∀ n, n < 31 → x = nI n → srI G μ t (gT a) (gL a) (gS a) B (nI (200 + n)) (kmF (bstF (gT a) (gL a) (gS a) n) allP 10) μ') := by
    rintro ⟨n, hn, hn0, rfl⟩
    refine (c_X1_seekRate hG hP hf (n := n) (by omega) (han n (by omega))).mono (pV_mono ?_)
    intro μ' h n' hn' e
    have : n = n' := (nI_eq (by omega) (by omega)).mp e
    subst this; exact h
  refine b_X11_best_0 hG hP (fun h => ⟨(gIf_no1 (by decide) (one_lt (by decide) h)).symm, st⟩) (fun _ h => ⟨(gIf_no1 (by decide) (one_gt (n := 30) (by decide) rfl h)).symm, st⟩) (fun h0 h1 h => ⟨(yno (okx h0 h1) (isN_lt h (by decide))).symm, st⟩) (fun h0 h1 _ _ => sk (okx h0 h1)) (fun h0 h1 h2 h3 => ?_) (fun h0 h1 h2 h => ⟨(yno (okx h0 h1) (isN_big (n := 1) (by decide) rfl h)).symm, st⟩)
  obtain ⟨n, hn, hn0, rfl⟩ := okx h0 h1
  obtain ⟨w, hw, rfl⟩ := isN_ok (n := 1) (by decide) rfl h2 h3
  have w0 : nI w = 0 ↔ w = 0 := nI_eq (b := 0) (by omega) (by decide)
  rw [show rBest (gT a) (gL a) (gS a) (nI n) (nI w) = _ from gIf_in1 hn (by decide) hn0, gIf_in hw (by decide)]
  intro μ2 h2'
  have h2 := h2' n hn rfl
  have st2 := sr_all hc h2 (anI_bst (by omega) h2.2.2.2.1 h2.pr)
  refine b_X11_best_30 hG h2.1 (fun h => ⟨?_, st2⟩) (fun h => ⟨?_, st2⟩)
  · rw [if_neg (fun z => h (w0.mpr z))]; exact h2.2.2.2.2.1
  · rw [if_pos (w0.mp h)]; exact h2.2.2.2.2.2
theorem c_X11_keepers (hG : gGG G) {μ : jM} (hP : gPP μ) {a : aS} {B t d : Nat} (hc : cJ G a B t d μ) (x y : Int32) : jC0 l mX11_keepers 7 G [.ref 0, .int x, .int y] μ (pI fun z μ' => z = rKeepers (gT a) (gL a) (gS a) x y ∧ cJ G a B t d μ' ∧ gPP μ' ∧ hiC μ μ') := by
  refine jC0.of' (ls := [.ref 0, .int x, .int y]) rfl rfl rfl (fun _ _ => Nat.le_of_ble_eq_true rfl) ?_
  have hf := hc.1
  have st := And.intro hc (And.intro hP (hiC.refl (μ := μ)))
  have han := hc.2.2.2.2.2.2.2.2.2.2.2.2.1
  have okx : ¬ x < 1 → ¬ (9 : Int32) < x → ∃ k, k < 10 ∧ k ≠ 0 ∧ x = nI k := fun h0 h1 => one_ok (b := 9) (n := 9) (by decide) rfl h0 (i32_nlt h1)
  have sk : (∃ k, k < 10 ∧ k ≠ 0 ∧ x = nI k) → jC0 l mX1_takeByKeepers 6 G [.ref 57, .int x] μ (pV fun μ' => ∀ n, n < 10 → x = nI n → gPP μ' ∧ fcI G μ' t (gT a) (gL a) (gS a) B ∧ cO5 (foI t) (lnL t) μ μ' ∧ μ'.1 57 2 = nI (400 + n) ∧ ∀ p, p < 16 → μ'.1 60 p = tkE (gT a) (gL a) (gS a) n p ∧ μ'.1 61 p = tkO (gT a) (gL a) (gS a) n p) := by
    rintro ⟨n, hn, hn0, rfl⟩
    refine (c_X1_takeByKeepers hG hP hf (n := n) (by omega) (han n (by omega))).mono (pV_mono ?_)
    intro μ' h n' hn' e
    have : n = n' := (nI_eq (by omega) (by omega)).mp e
    subst this; exact h
  refine b_X11_keepers_0 hG hP (fun h => ⟨(gIf_no1 (by decide) (one_lt (by decide) h)).symm, st⟩) (fun _ h => ⟨(gIf_no1 (by decide) (one_gt (n := 9) (by decide) rfl h)).symm, st⟩) (fun h0 h1 _ => sk (okx h0 h1)) (fun h0 h1 hy => ?_) (fun h0 h1 hy => ⟨?_, st⟩)
  · obtain ⟨n, hn, hn0, rfl⟩ := okx h0 h1
    rw [show rKeepers (gT a) (gL a) (gS a) (nI n) y = _ from gIf_in1 hn (by decide) hn0, if_pos hy]
    intro μ2 h2'
    obtain ⟨hP2, hf2, ho2, h57, ht⟩ := h2' n hn rfl
    obtain ⟨hc2, hi2⟩ := cJ_q hc hf2 ho2 (anI_kp (by omega) h57 ht)
    refine b_X11_keepers_26 hG hP2 (c_X1_rest hG hP2 y) ?_
    rintro z μ3 ⟨rfl, rfl⟩
    refine b_X11_keepers_34 hG hP2 ⟨?_, hc2, hP2, hi2⟩
    exact pkF_congr 16 0 0 (fun q _ h => rsP_congr (fun p hp => (ht p hp).1) (fun p hp => (ht p hp).2) (by omega))
  · obtain ⟨n, hn, hn0, rfl⟩ := okx h0 h1
    rw [show rKeepers (gT a) (gL a) (gS a) (nI n) y = _ from gIf_in1 hn (by decide) hn0, if_neg hy]
theorem c_X11_meets (hG : gGG G) {μ : jM} (hP : gPP μ) {a : aS} {B t d : Nat} (hc : cJ G a B t d μ) (x y : Int32) : jC0 l mX11_meets 1 G [.ref 0, .int x, .int y] μ (pI fun z μ' => z = rMeets (gT a) (gS a) x y ∧ cJ G a B t d μ' ∧ gPP μ' ∧ hiC μ μ') := by
  refine jC0.of' (ls := [.ref 0, .int x, .int y, .null, .null]) rfl rfl rfl (fun _ _ => Nat.le_of_ble_eq_true rfl) ?_
  have hf := hc.1
  have hx0 := hf.1.2.2.1
  have hv := hx0.2.2.2.2.2
  have h7 := hv.1.2.2.1
  have st := And.intro hc (And.intro hP (hiC.refl (μ := μ)))
  have hB : B ≤ BB := by have := hf.2.2.1.2.1; omega
  refine b_X11_meets_0 hG hP (c_X11_isGhost hG hP hf x) ?_
  rintro z μ1 ⟨rfl, ⟨rfl, hx⟩ | ⟨rfl, hx⟩⟩
  · obtain ⟨g, hg, rfl⟩ := hx
    rw [show rMeets (gT a) (gS a) (nI g) y = _ from gIf_in hg (by omega)]
    refine b_X11_meets_5 hG hP (fun h => absurd h (by decide)) (fun _ => c_X11_isGhost hG hP hf y) (fun _ => ?_)
    rintro z μ2 ⟨rfl, ⟨rfl, hy⟩ | ⟨rfl, hy⟩⟩
    · obtain ⟨o, ho, rfl⟩ := hy
      rw [gIf_in ho (by omega)]
      have hao : nI g = nI o ↔ g = o := nI_eq (by omega) (by omega)
      refine b_X11_meets_13 hG hP hf.1.1 hf.1.2.1 (fun h => absurd h (by decide)) (fun _ h => ?_) (fun _ h => ⟨(if_pos (hao.mp h)).symm, st⟩)
      rw [if_neg (fun z => h (hao.mpr z))]
      obtain ⟨n, hn, en⟩ := hf.2.2.1.1.1
      have hnB : n < 2 ^ 30 := by have : B ≤ 2 ^ 18 := hB; omega
      have e0 : μ2.1 53 0 = nI n := by rw [hf.2.1]; exact en
      rw [e0, en, nI_clamp (by omega)]
      have mt : ∀ j, mtP (gT a) g o (n + j) = true ↔ evP (gT a) g (n + j) ∧ evP (gT a) o (n + j) := fun j => by unfold mtP; exact @decide_eq_true_iff _ (Classical.propDecidable _)
      have nt : ∀ b, b < gT a 0 2 → ∀ q : Nat, jC0 l mX8_isNightOf 0 G [.ref t, .int (nI b), .int (nI q)] μ2 (pI fun x μ' => μ' = μ2 ∧ ((x = 1 ∧ evP (gT a) b q) ∨ (x = 0 ∧ ¬ evP (gT a) b q))) := fun b hb q => by
        have := c_X8_isNightOf (l := l) (S := fun _ => nI q) hG hP hf.1.1 hx0 hb (night := nI q) rfl
        exact this
      have loop : ∀ (m j : Nat), j + m = 100 - n → (∀ i, i < j → ¬ mtP (gT a) g o (n + i) = true) → J l mX11_meets (jZ0 1 G (pI fun z μ' => z = mtV (gT a) n g o ∧ cJ G a B t d μ' ∧ gPP μ' ∧ hiC μ2 μ')) G 0 0 42 [.null, .int (nI g), .int (nI o), .ref t, .int (nI (n + j))] [] μ2 := by
        intro m
        induction m with
        | zero =>
          intro j hj hno
          have h99 : (99 : Int32) < nI (n + j) := by
            rw [i32_lt, nI_toInt (by omega)]; show (99 : Int) < _; omega
          exact b_X11_meets_42 (ψ1 := fun _ _ => True) hG hP hf.1.1 (fun _ => ⟨(mtV_no (fun i hi => hno i (by omega))).symm, st⟩) (fun h => absurd h99 h) (fun h => absurd h99 h)
        | succ m ih =>
          intro j hj hno
          have h99 : ¬ (99 : Int32) < nI (n + j) := nI_nlt (a := 99) (by omega) (by decide)
          have hnx : ¬ mtP (gT a) g o (n + j) = true → J l mX11_meets (jZ0 1 G (pI fun z μ' => z = mtV (gT a) n g o ∧ cJ G a B t d μ' ∧ gPP μ' ∧ hiC μ2 μ')) G 0 0 42 [.null, .int (nI g), .int (nI o), .ref t, .int (nI (n + j) + 1)] [] μ2 := fun hnm => by
            rw [nI_inc]
            exact ih (j + 1) (by omega) (fun i hi => by
              by_cases e : i = j
              · rw [e]; exact hnm
              · exact hno i (by omega))
          refine b_X11_meets_42 hG hP hf.1.1 (fun h => absurd h h99) (fun _ => nt g hg (n + j)) (fun _ => ?_)
          rintro z μ3 ⟨rfl, ⟨rfl, hA⟩ | ⟨rfl, hA⟩⟩
          · refine b_X11_meets_56 hG hP hf.1.1 (fun h => absurd h (by decide)) (fun _ => nt o ho (n + j)) (fun _ => ?_)
            rintro z μ4 ⟨rfl, ⟨rfl, hB2⟩ | ⟨rfl, hB2⟩⟩
            · exact b_X11_meets_66 hG hP hf.1.1 (fun h => absurd h (by decide)) (fun _ => ⟨(mtV_at (by omega) ((mt j).mpr ⟨hA, hB2⟩) hno).symm, st⟩)
            · exact b_X11_meets_66 hG hP hf.1.1 (fun _ => hnx (fun z => hB2 ((mt j).mp z).2)) (fun h => absurd rfl h)
          · exact b_X11_meets_56 (ψ1 := fun _ _ => True) hG hP hf.1.1 (fun _ => hnx (fun z => hA ((mt j).mp z).1)) (fun h => absurd rfl h) (fun h => absurd rfl h)
      exact loop (100 - n) 0 (by omega) (fun i hi => by omega)
    · exact b_X11_meets_13 hG hP hf.1.1 hf.1.2.1 (fun _ => ⟨(gIf_out hy).symm, st⟩) (fun h => absurd rfl h) (fun h => absurd rfl h)
  · exact b_X11_meets_5 (ψ1 := fun _ _ => True) hG hP (fun _ => ⟨(gIf_out hx).symm, st⟩) (fun h => absurd rfl h) (fun h => absurd rfl h)
end ClsD
