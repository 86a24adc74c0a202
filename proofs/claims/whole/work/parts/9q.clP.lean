/-! THE CLASS reads: its small steps -/
def cO3 (C F L : List Nat) (μ μ' : jM) : Prop := μ'.2.2 = μ.2.2 ∧ (∀ c, c ≠ 3 → c ∉ C → μ'.1 c = μ.1 c) ∧ (∀ f, f ∉ F → μ'.1 3 f = μ.1 3 f) ∧ ∀ c, c ∉ L → μ'.2.1 c = μ.2.1 c
theorem cO3.refl {C F L : List Nat} {μ : jM} : cO3 C F L μ μ := ⟨rfl, fun _ _ _ => rfl, fun _ _ => rfl, fun _ _ => rfl⟩
theorem cO3.trans {C F L : List Nat} {μ μ1 μ2 : jM} (h1 : cO3 C F L μ μ1) (h2 : cO3 C F L μ1 μ2) : cO3 C F L μ μ2 := ⟨h2.1.trans h1.1, fun c a b => (h2.2.1 c a b).trans (h1.2.1 c a b), fun f a => (h2.2.2.1 f a).trans (h1.2.2.1 f a), fun c a => (h2.2.2.2 c a).trans (h1.2.2.2 c a)⟩
theorem cO3.mono {C F L C' F' L' : List Nat} {μ μ' : jM} (h : cO3 C F L μ μ') (hc : ∀ c ∈ C, c ∈ C') (hf : ∀ f ∈ F, f ∈ F') (hl : ∀ c ∈ L, c ∈ L') : cO3 C' F' L' μ μ' := ⟨h.1, fun c a b => h.2.1 c a (fun z => b (hc c z)), fun f a => h.2.2.1 f (fun z => a (hf f z)), fun c a => h.2.2.2 c (fun z => a (hl c z))⟩
theorem cO3_wF {C F L : List Nat} {μ : jM} {i : Nat} {x : Int32} (hi : i ∈ F) : cO3 C F L μ (wI μ 3 i x) := ⟨rfl, fun a h1 _ => wI_ne h1, fun f hf => wI_off' (fun z => hf (by rw [z]; exact hi)), fun _ _ => rfl⟩
theorem cO3_wC {C F L : List Nat} {μ : jM} {c i : Nat} {x : Int32} (h : c ≠ 3) (hc : c ∈ C) : cO3 C F L μ (wI μ c i x) := ⟨rfl, fun a _ hb => wI_ne (fun z => hb (z ▸ hc)), fun _ _ => by rw [wI_ne (fun z => h z.symm)], fun _ _ => rfl⟩
theorem cO3_wL {C F L : List Nat} {μ : jM} {c i : Nat} {x : Int64} (hc : c ∈ L) : cO3 C F L μ (wL μ c i x) := ⟨rfl, fun _ _ _ => rfl, fun _ _ => rfl, fun a ha => wL_ne (fun z => ha (z ▸ hc))⟩
theorem cO3.gPP {C F L : List Nat} {μ μ' : jM} (h : cO3 C F L μ μ') (hP : gPP μ) : gPP μ' := gPP_of h.1 hP
theorem cO3.tO {C F L : List Nat} {μ μ' : jM} (h : cO3 C F L μ μ') {gl : jG} {pl : Nat → Nat → Option Nat} {G : jG} {t : Nat} (ht : tO gl pl G μ t) : tO gl pl G μ' t := tO_of h.1 ht
theorem cO3.c {C F L : List Nat} {μ μ' : jM} (h : cO3 C F L μ μ') (c : Nat) (h1 : c ≠ 3 := by decide) (h2 : c ∉ C := by decide) : μ'.1 c = μ.1 c := h.2.1 c h1 h2
theorem cO3.f {C F L : List Nat} {μ μ' : jM} (h : cO3 C F L μ μ') (f : Nat) (h1 : f ∉ F := by decide) : μ'.1 3 f = μ.1 3 f := h.2.2.1 f h1
theorem cO3.g {C F L : List Nat} {μ μ' : jM} (h : cO3 C F L μ μ') (c : Nat) (h1 : c ∉ L := by decide) : μ'.2.1 c = μ.2.1 c := h.2.2.2 c h1
def sC (w : Nat × Nat) (μ : jM) : Prop := μ.1 3 11 = nI w.1 ∧ (w.1 ≠ 0 → μ.1 3 12 = nI w.2)
def okC (Y : List Int32) (t : Nat) (w : Nat × Nat) (μ : jM) : Prop := lexC μ Y ∧ (t ≤ 400 ∧ gd Y t) ∧ wOK Y t w ∧ μ.1 3 8 = nI t ∧ μ.1 3 9 = 0 ∧ sC w μ
def cB (e : pF) (μ : jM) : Prop := (e.1 = 1 ∨ e.1 = 2) ∧ μ.1 3 9 = nI e.1 ∧ μ.1 3 10 = nI e.2 ∧ ∃ t, t ≤ 400 ∧ μ.1 3 8 = nI t
theorem cB_9 {e : pF} {μ : jM} (h : cB e μ) : ¬ μ.1 3 9 = 0 := by
  rw [h.2.1]
  rcases h.1 with z | z <;> rw [z] <;> decide
theorem okC_9 {Y : List Int32} {t : Nat} {w : Nat × Nat} {μ : jM} (h : okC Y t w μ) : μ.1 3 9 = 0 := h.2.2.2.2.1
theorem cB_off {e : pF} {C F L : List Nat} {μ μ' : jM} (h : cB e μ) (ho : cO3 C F L μ μ') (h1 : 8 ∉ F := by decide) (h2 : 9 ∉ F := by decide) (h3 : 10 ∉ F := by decide) : cB e μ' := by
  unfold cB at h ⊢
  rw [ho.f 8 h1, ho.f 9 h2, ho.f 10 h3]; exact h
theorem sC_off {w : Nat × Nat} {C F L : List Nat} {μ μ' : jM} (h : sC w μ) (ho : cO3 C F L μ μ') (h1 : 11 ∉ F := by decide) (h2 : 12 ∉ F := by decide) : sC w μ' := by
  unfold sC at h ⊢
  rw [ho.f 11 h1, ho.f 12 h2]; exact h
theorem lexC_off {Y : List Int32} {C F L : List Nat} {μ μ' : jM} (h : lexC μ Y) (ho : cO3 C F L μ μ') (h1 : 5 ∉ C := by decide) (h2 : 6 ∉ C := by decide) (h3 : 7 ∉ L := by decide) : lexC μ' Y := by
  unfold lexC tkC at h ⊢
  rw [ho.c 5 (by decide) h1, ho.c 6 (by decide) h2, ho.g 7 h3]; exact h
theorem okC_off {Y : List Int32} {t : Nat} {w : Nat × Nat} {C F L : List Nat} {μ μ' : jM} (h : okC Y t w μ) (ho : cO3 C F L μ μ') (c1 : 5 ∉ C := by decide) (c2 : 6 ∉ C := by decide) (c3 : 7 ∉ L := by decide) (h1 : 8 ∉ F := by decide) (h2 : 9 ∉ F := by decide) (h3 : 11 ∉ F := by decide) (h4 : 12 ∉ F := by decide) : okC Y t w μ' := by
  obtain ⟨a1, a2, a3, a4, a5, a6⟩ := h
  exact ⟨lexC_off a1 ho c1 c2 c3, a2, a3, by rw [ho.f 8 h1]; exact a4, by rw [ho.f 9 h2]; exact a5, sC_off a6 ho h3 h4⟩
theorem okC_t {Y : List Int32} {t t' : Nat} {w : Nat × Nat} {μ : jM} (h : okC Y t w μ) (ht : t' ≤ 400 ∧ gd Y t') (hw : wOK Y t' w) : okC Y t' w (wI μ 3 8 (nI t')) := by
  obtain ⟨h1, h2, h3, h4, h5, h6⟩ := h
  have ho : cO3 [] [8] [] μ (wI μ 3 8 (nI t')) := cO3_wF (by decide)
  exact ⟨lexC_off h1 ho, ht, hw, wI_at, by rw [ho.f 9]; exact h5, sC_off h6 ho⟩
theorem u_atC {Y : List Int32} {t : Nat} {w : Nat × Nat} {μ : jM} (h : okC Y t w μ) : μ.1 3 8 = nI t ∧ t ≤ 400 ∧ μ.1 5 t = kC (kd Y t) ∧ μ.1 6 t = nI (pl Y t) ∧ (kd Y t = 1 → μ.2.1 7 t = lN (en 32 (nm Y t))) ∧ (kd Y t = 2 → μ.2.1 7 t = lN (vl Y t)) := by
  obtain ⟨h1, h2, h3, h4, h5, h6⟩ := h
  obtain ⟨a, b, c, d⟩ := h1 t h2.1 h2.2
  exact ⟨h4, h2.1, a, b, c, d⟩
abbrev uC {α : Type} (Y : List Int32) (x : Except pF α) (tk : α → Nat) (ww : α → Nat × Nat) (μ : jM) : Prop := pR x (fun a μ => okC Y (tk a) (ww a) μ) cB μ
theorem uC_off {α : Type} {Y : List Int32} {x : Except pF α} {tk : α → Nat} {ww : α → Nat × Nat} {C F L : List Nat} {μ μ' : jM} (h : uC Y x tk ww μ) (ho : cO3 C F L μ μ') (c1 : 5 ∉ C := by decide) (c2 : 6 ∉ C := by decide) (c3 : 7 ∉ L := by decide) (h1 : 8 ∉ F := by decide) (h2 : 9 ∉ F := by decide) (h3 : 10 ∉ F := by decide) (h4 : 11 ∉ F := by decide) (h5 : 12 ∉ F := by decide) : uC Y x tk ww μ' :=
  pR_mono h (fun _ _ q => okC_off q ho c1 c2 c3 h1 h2 h4 h5) (fun _ q => cB_off q ho h1 h2 h3)
theorem kC_m1 : ∀ k, k < 43 → ¬ kC k = -1 := by decide +kernel
abbrev gF : List Nat := [8, 9, 10]
abbrev gW : List Nat := [8, 9, 10, 11, 12]
section ClP
variable {l : Launch} {G : jG} {Y : List Int32}
theorem c_X4_kindHere (hG : gGG G) {μ : jM} (hP : gPP μ) {t : Nat} {w : Nat × Nat} (h : okC Y t w μ) : jC0 l mX4_kindHere 0 G [.ref 3] μ (pI fun v μ' => v = kC (kd Y t) ∧ μ' = μ) := by
  refine jC0.of' (ls := [.ref 3]) rfl rfl rfl (fun _ _ => Nat.le_of_ble_eq_true rfl) ?_
  obtain ⟨a1, a2, a3, -, -, -⟩ := u_atC h
  refine b_X4_kindHere_0 hG hP (fun z => absurd (okC_9 h) z) (fun _ => by rw [a1]; exact vp_in_nI (by omega) (by decide)) (fun _ => ⟨?_, rfl⟩)
  rw [a1, nI_clamp (by omega)]; exact a3
theorem d_X4_kindHere (hG : gGG G) {μ : jM} (hP : gPP μ) {e : pF} (h : cB e μ) : jC0 l mX4_kindHere 0 G [.ref 3] μ (pI fun v μ' => v = -1 ∧ μ' = μ) := by
  refine jC0.of' (ls := [.ref 3]) rfl rfl rfl (fun _ _ => Nat.le_of_ble_eq_true rfl) ?_
  exact b_X4_kindHere_0 hG hP (fun _ => ⟨rfl, rfl⟩) (fun z => absurd z (cB_9 h)) (fun z => absurd z (cB_9 h))
theorem c_X4_failHere (hG : gGG G) {μ : jM} (hP : gPP μ) {t : Nat} {w : Nat × Nat} (h : okC Y t w μ) {k : Nat} {x : Int32} (hx : x = nI k) (hk : k = 1 ∨ k = 2) : jC0 l mX4_failHere 0 G [.ref 3, .int x] μ (pV fun μ' => cB (k, pl Y t) μ' ∧ cO3 [] gF [] μ μ') := by
  subst hx
  refine jC0.of' (ls := [.ref 3, .int (nI k)]) rfl rfl rfl (fun _ _ => Nat.le_of_ble_eq_true rfl) ?_
  obtain ⟨a1, a2, -, a4, -, -⟩ := u_atC h
  refine b_X4_failHere_0 hG hP (fun z => absurd (okC_9 h) z) (fun _ => by rw [a1]; exact vp_in_nI (by omega) (by decide)) (fun _ => ?_)
  rw [a1, nI_clamp (by omega), a4]
  refine ⟨⟨hk, by rw [wI_off' (by decide), wI_at], wI_at, t, a2, by rw [wI_off' (by decide), wI_off' (by decide)]; exact a1⟩, (cO3_wF (by decide)).trans (cO3_wF (by decide))⟩
theorem d_X4_failHere (hG : gGG G) {μ : jM} (hP : gPP μ) {e : pF} (h : cB e μ) (x : Int32) : jC0 l mX4_failHere 0 G [.ref 3, .int x] μ (pV fun μ' => μ' = μ) := by
  refine jC0.of' (ls := [.ref 3, .int x]) rfl rfl rfl (fun _ _ => Nat.le_of_ble_eq_true rfl) ?_
  exact b_X4_failHere_0 hG hP (fun _ => rfl) (fun z => absurd z (cB_9 h)) (fun z => absurd z (cB_9 h))
theorem c_X4_take (hG : gGG G) {μ : jM} (hP : gPP μ) {t : Nat} {w : Nat × Nat} (h : okC Y t w μ) (hk : kd Y t ≠ 0 ∧ kd Y t ≠ 3) : jC0 l mX4_take 1 G [.ref 3] μ (pV fun μ' => pR (tke Y t) (fun t' μ' => okC Y t' w μ') cB μ' ∧ cO3 [] gF [] μ μ') := by
  refine jC0.of' (ls := [.ref 3]) rfl rfl rfl (fun _ _ => Nat.le_of_ble_eq_true rfl) ?_
  obtain ⟨a1, a2, -, -, -, -⟩ := u_atC h
  have e4 : μ.1 3 8 < 400 ↔ t < 400 := by rw [a1]; exact nI_ltI (b := 400) (by omega) (by decide)
  by_cases ht : t = 400
  · have et : tke Y t = .error (2, pl Y t) := by unfold tke; rw [if_pos ht]
    rw [et]
    refine b_X4_take_0 hG hP (fun z => absurd (e4.mp z) (by omega)) (fun z => absurd (e4.mp z) (by omega)) (fun _ => c_X4_failHere hG hP h (k := 2) rfl (Or.inr rfl)) (fun _ μ1 h1 => ?_)
    exact b_X4_take_15 hG (h1.2.gPP hP) h1
  · have et : tke Y t = .ok (t + 1) := by unfold tke; rw [if_neg ht]
    obtain ⟨q1, q2, -⟩ := tke_w hk h.2.1 h.2.2.1 et
    rw [et]
    refine b_X4_take_0 (ψ2 := fun _ => True) hG hP (fun _ z => absurd (okC_9 h) z) (fun _ _ => ?_) (fun z => absurd (e4.mpr (by omega)) z) (fun z => absurd (e4.mpr (by omega)) z)
    rw [a1, nI_inc]
    exact ⟨okC_t h q1 q2, cO3_wF (by decide)⟩
theorem d_X4_take (hG : gGG G) {μ : jM} (hP : gPP μ) {e : pF} (h : cB e μ) : jC0 l mX4_take 1 G [.ref 3] μ (pV fun μ' => μ' = μ) := by
  refine jC0.of' (ls := [.ref 3]) rfl rfl rfl (fun _ _ => Nat.le_of_ble_eq_true rfl) ?_
  refine b_X4_take_0 hG hP (fun _ _ => rfl) (fun _ z => absurd z (cB_9 h)) (fun _ => d_X4_failHere hG hP h _) (fun _ μ1 h1 => ?_)
  exact b_X4_take_15 hG (by rw [h1]; exact hP) h1
/-- unified: a TOKEN is taken -/
theorem v_take {α : Type} (hG : gGG G) {μ : jM} (hP : gPP μ) {x : Except pF α} {tk : α → Nat} {ww : α → Nat × Nat} (h : uC Y x tk ww μ) (hk : ∀ a, x = .ok a → kd Y (tk a) ≠ 0 ∧ kd Y (tk a) ≠ 3) : jC0 l mX4_take 1 G [.ref 3] μ (pV fun μ' => uC Y (px x fun a => tke Y (tk a)) (fun p => p.2) (fun p => ww p.1) μ' ∧ cO3 [] gF [] μ μ') := by
  cases x with
  | ok a =>
    refine (c_X4_take hG hP (show okC Y (tk a) (ww a) μ from h) (hk a rfl)).mono (pV_mono fun μ' h' => ⟨?_, h'.2⟩)
    rw [px_ok]
    cases e : tke Y (tk a) with
    | ok t' => exact pR_ok h'.1 e
    | error f => exact pR_er h'.1 e
  | error e => exact (d_X4_take hG hP h).mono (pV_mono fun μ' h' => by subst h'; exact ⟨h, cO3.refl⟩)
theorem v_expect {α : Type} (hG : gGG G) {μ : jM} (hP : gPP μ) {x : Except pF α} {tk : α → Nat} {ww : α → Nat × Nat} (h : uC Y x tk ww μ) {k : Nat} {z : Int32} (hz : z = kC k) (hk : k < 43 ∧ k ≠ 0 ∧ k ≠ 3) : jC0 l mX4_expect 2 G [.ref 3, .int z] μ (pI fun v μ' => uC Y (px x fun a => xpc Y k (tk a)) (fun p => p.2) (fun p => ww p.1) μ' ∧ cO3 [] gF [] μ μ' ∧ (∀ p, (px x fun a => xpc Y k (tk a)) = .ok p → v = 1)) := by
  subst hz
  refine jC0.of' (ls := [.ref 3, .int (kC k)]) rfl rfl rfl (fun _ _ => Nat.le_of_ble_eq_true rfl) ?_
  cases x with
  | ok a =>
    have h : okC Y (tk a) (ww a) μ := h
    refine b_X4_expect_0 hG hP (c_X4_kindHere hG hP h) (fun v μ1 h1 => ?_)
    obtain ⟨rfl, rfl⟩ := h1
    rw [px_ok]
    unfold xpc
    by_cases e : kd Y (tk a) = k
    · rw [if_pos e]
      refine b_X4_expect_4 (ψ1 := fun _ => True) hG hP (fun _ => c_X4_take hG hP h (by omega)) (fun _ μ2 h2 => ?_) (fun z => absurd (by rw [e]) z) (fun z => absurd (by rw [e]) z)
      refine b_X4_expect_19 hG (h2.2.gPP hP) ⟨?_, h2.2, fun _ _ => rfl⟩
      cases et : tke Y (tk a) with
      | ok t' => exact pR_ok h2.1 et
      | error f => exact pR_er h2.1 et
    · rw [if_neg e]
      have hne : ¬ kC (kd Y (tk a)) = kC k := fun z => e (kC_inj _ kd_in _ hk.1 z)
      refine b_X4_expect_4 (ψ0 := fun _ => True) hG hP (fun z => absurd z hne) (fun z => absurd z hne) (fun _ => c_X4_failHere hG hP h (k := 1) rfl (Or.inl rfl)) (fun _ μ2 h2 => ?_)
      exact b_X4_expect_13 hG (h2.2.gPP hP) ⟨h2.1, h2.2, fun p hp => by cases hp⟩
  | error e =>
    have h : cB e μ := h
    refine b_X4_expect_0 hG hP (d_X4_kindHere hG hP h) (fun v μ1 h1 => ?_)
    obtain ⟨rfl, rfl⟩ := h1
    have hne : ¬ (-1 : Int32) = kC k := fun z => kC_m1 k hk.1 z.symm
    refine b_X4_expect_4 (ψ0 := fun _ => True) hG hP (fun z => absurd z hne) (fun z => absurd z hne) (fun _ => d_X4_failHere hG hP h _) (fun _ μ2 h2 => ?_)
    subst h2
    exact b_X4_expect_13 hG hP ⟨h, cO3.refl, fun p hp => by cases hp⟩
theorem c_X4_failSense (hG : gGG G) {μ : jM} (hP : gPP μ) {k p : Nat} {w : Nat × Nat} (hs : sC w μ) (hw5 : w.1 ≤ 5) {z1 z2 : Int32} (h1 : z1 = nI k) (h2 : z2 = nI p) : jC0 l mX4_failSense 0 G [.ref 3, .int z1, .int z2] μ (pV fun μ' => sC (sns w k p) μ' ∧ cO3 [] [11, 12] [] μ μ') := by
  subst h1; subst h2
  refine jC0.of' (ls := [.ref 3, .int (nI k), .int (nI p)]) rfl rfl rfl (fun _ _ => Nat.le_of_ble_eq_true rfl) ?_
  have e0 : μ.1 3 11 = 0 ↔ w.1 = 0 := by rw [hs.1]; exact nI_eq (b := 0) (by omega) (by decide)
  refine b_X4_failSense_0 hG hP (fun z => ⟨?_, cO3.refl⟩) (fun z => ⟨?_, (cO3_wF (by decide)).trans (cO3_wF (by decide))⟩)
  · unfold sns; rw [if_neg (fun q => z (e0.mpr q))]; exact hs
  · unfold sns; rw [if_pos (e0.mp z)]
    exact ⟨by rw [wI_off' (by decide), wI_at], fun _ => wI_at⟩
theorem d_X4_failSense (hG : gGG G) {μ : jM} (hP : gPP μ) (z1 z2 : Int32) : jC0 l mX4_failSense 0 G [.ref 3, .int z1, .int z2] μ (pV fun μ' => cO3 [] [11, 12] [] μ μ') := by
  refine jC0.of' (ls := [.ref 3, .int z1, .int z2]) rfl rfl rfl (fun _ _ => Nat.le_of_ble_eq_true rfl) ?_
  exact b_X4_failSense_0 hG hP (fun _ => cO3.refl) (fun _ => (cO3_wF (by decide)).trans (cO3_wF (by decide)))
theorem d_X4_numberOf (hG : gGG G) {μ : jM} (hP : gPP μ) {nm nN : Nat} (hn : G[nm]? = some (3, nN)) (hN : nN < 2 ^ 30) (x : Int64) (z : Int32) : jC0 l mX4_numberOf 0 G [.long x, .ref nm, .int z] μ (pI fun _ μ' => μ' = μ) := by
  refine jC0.of' (ls := [.long x, .null, .ref nm, .int z, .null]) rfl rfl rfl (fun _ _ => Nat.le_of_ble_eq_true rfl) ?_
  refine b_X4_numberOf_0 hG hP hn ?_
  have loop : ∀ i, i ≤ nN → J l mX4_numberOf (jZ0 0 G (pI fun _ μ' => μ' = μ)) G 0 0 3 [.long x, .null, .ref nm, .int z, .int (nI i)] [] μ := by
    refine up_loop nN ?_ (fun i hi ih => ?_)
    · have hle : Int32.ofNat nN ≤ nI nN := nI_le (Nat.le_refl _) (by omega)
      exact b_X4_numberOf_3 hG hP hn (fun _ => rfl) (fun _ _ => rfl) (fun _ z => absurd hle z) (fun _ z => absurd hle z) (fun _ z => absurd hle z)
    · have hlt : ¬ Int32.ofNat nN ≤ nI i := nI_ge hi (by omega)
      refine b_X4_numberOf_3 hG hP hn (fun _ => rfl) (fun _ z => absurd z hlt) (fun _ _ => vp_in_nI hi (by omega)) (fun _ _ _ => ?_) (fun _ _ _ => rfl)
      rw [nI_inc]; exact ih
  exact loop 0 (Nat.zero_le _)
theorem fid_s (lst : List (List Nat)) (n : List Nat) : ∀ j, j ≤ lst.length → (∀ i, i < j → ¬ lst[i]? = some n) → fid lst n 0 = fid (lst.drop j) n j := by
  intro j
  induction j with
  | zero => intro _ _; rw [List.drop_zero]
  | succ j ih =>
    intro hj h
    rw [ih (by omega) (fun i hi => h i (by omega)), List.drop_eq_getElem_cons (by omega)]
    conv => lhs; unfold fid
    rw [if_neg (fun z => h j (by omega) (by rw [List.getElem?_eq_getElem (by omega), z]))]
theorem c_X4_numberOf (hG : gGG G) {μ : jM} (hP : gPP μ) {nm nN : Nat} (hn : G[nm]? = some (3, nN)) (hN : nN < 2 ^ 30) {lst : List (List Nat)} {n : List Nat} (hl : lst.length ≤ nN) (hw : okW n) (hlw : ∀ w ∈ lst, okW w) (hm : ∀ (j : Nat) (w : List Nat), lst[j]? = some w → μ.2.1 nm j = lN (en 32 w)) {z : Int32} (hz : z = nI lst.length) : jC0 l mX4_numberOf 0 G [.long (lN (en 32 n)), .ref nm, .int z] μ (pI fun v μ' => v = nI (fid lst n 0) ∧ μ' = μ) := by
  subst hz
  refine jC0.of' (ls := [.long (lN (en 32 n)), .null, .ref nm, .int (nI lst.length), .null]) rfl rfl rfl (fun _ _ => Nat.le_of_ble_eq_true rfl) ?_
  refine b_X4_numberOf_0 hG hP hn ?_
  have loop : ∀ i, i ≤ lst.length → (∀ j, j < i → ¬ lst[j]? = some n) → J l mX4_numberOf (jZ0 0 G (pI fun v μ' => v = nI (fid lst n 0) ∧ μ' = μ)) G 0 0 3 [.long (lN (en 32 n)), .null, .ref nm, .int (nI lst.length), .int (nI i)] [] μ := by
    refine up_loop lst.length ?_ (fun i hi ih => ?_)
    · intro h
      have hle : nI lst.length ≤ nI lst.length := nI_le (Nat.le_refl _) (by omega)
      refine b_X4_numberOf_3 hG hP hn (fun _ => ⟨?_, rfl⟩) (fun z => absurd hle z) (fun z => absurd hle z) (fun z => absurd hle z) (fun z => absurd hle z)
      rw [fid_s lst n lst.length (Nat.le_refl _) h, List.drop_eq_nil_of_le (Nat.le_refl _)]
      exact nI_NON.symm
    · intro h
      have hlt : ¬ nI lst.length ≤ nI i := nI_ge hi (by omega)
      have hlt2 : ¬ Int32.ofNat nN ≤ nI i := nI_ge (by omega) (by omega)
      have e1 : μ.2.1 nm (nI i).toNatClampNeg = lN (en 32 lst[i]) := by rw [nI_clamp (by omega)]; exact hm i _ (List.getElem?_eq_getElem hi)
      have ow := hlw _ (List.getElem_mem hi)
      refine b_X4_numberOf_3 hG hP hn (fun z => absurd z hlt) (fun _ z => absurd z hlt2) (fun _ _ => vp_in_nI (by omega) (by omega)) (fun _ _ hc => ?_) (fun _ _ hc => ⟨?_, rfl⟩)
      · rw [e1, lgc0, nm_inj (by decide) (by decide) ow hw] at hc
        rw [nI_inc]
        refine ih (fun j hj z => ?_)
        by_cases e : j = i
        · subst e; rw [List.getElem?_eq_getElem hi] at z; exact hc (Option.some.inj z)
        · exact h j (by omega) z
      · rw [e1, lgc0, nm_inj (by decide) (by decide) ow hw] at hc
        rw [fid_s lst n i (by omega) h, List.drop_eq_getElem_cons hi]
        unfold fid
        rw [if_pos hc]
  exact loop 0 (Nat.zero_le _) (fun j hj => by omega)
end ClP
