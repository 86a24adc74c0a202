/-! THE REFERENCE reads: what it writes, where; its small steps -/
def rF : List Nat := [11, 12, 13, 14, 15, 16, 20, 42, 48, 52]
def wid (c : Nat) : Nat := if c = 124 ∨ c = 125 ∨ c = 126 ∨ c = 127 then 12 else if 130 ≤ c ∧ c ≤ 134 then 7 else if c = 139 ∨ c = 140 then 3 else if 141 ≤ c ∧ c ≤ 145 then 130 else if c = 146 ∨ c = 147 then 420 else 1
def inS (v c i : Nat) : Prop := (c = 121 ∨ c = 148) ∨ (122 ≤ c ∧ c ≤ 147 ∧ wid c * v ≤ i ∧ i < wid c * v + wid c)
/-- only side v is written, and what a reading writes -/
def rmK (v : Nat) (μ0 μ : jM) : Prop := μ.2.2 = μ0.2.2 ∧ (∀ c, c ≠ 120 → μ.2.1 c = μ0.2.1 c) ∧ (∀ f, f ∉ rF → μ.1 112 f = μ0.1 112 f) ∧ ∀ c i, c ≠ 112 → ¬ inS v c i → μ.1 c i = μ0.1 c i
theorem rmK.refl {v : Nat} {μ : jM} : rmK v μ μ := ⟨rfl, fun _ _ => rfl, fun _ _ => rfl, fun _ _ _ _ => rfl⟩
theorem rmK.trans {v : Nat} {μ μ1 μ2 : jM} (h1 : rmK v μ μ1) (h2 : rmK v μ1 μ2) : rmK v μ μ2 := ⟨h2.1.trans h1.1, fun c a => (h2.2.1 c a).trans (h1.2.1 c a), fun f a => (h2.2.2.1 f a).trans (h1.2.2.1 f a), fun c i a b => (h2.2.2.2 c i a b).trans (h1.2.2.2 c i a b)⟩
theorem rmK.gNN {v : Nat} {μ μ' : jM} (h : rmK v μ μ') (hP : gNN μ) : gNN μ' := gNN_of h.1 hP
theorem rmK_wF {v : Nat} {μ : jM} {f : Nat} {x : Int32} (hf : f ∈ rF) : rmK v μ (wI μ 112 f x) := ⟨rfl, fun _ _ => rfl, fun g hg => wI_off' (fun z => hg (by rw [z]; exact hf)), fun c i hc _ => by rw [wI_ne hc]⟩
theorem rmK_wC {v : Nat} {μ : jM} {c i : Nat} {x : Int32} (hc : c ≠ 112) (hi : inS v c i) : rmK v μ (wI μ c i x) := ⟨rfl, fun _ _ => rfl, fun g _ => by rw [wI_ne (fun z => hc z.symm)], fun c' i' _ h => by
  by_cases e : c' = c
  · subst e
    exact wI_off' (fun z => h (by rw [z]; exact hi))
  · rw [wI_ne e]⟩
theorem rmK_wL {v : Nat} {μ : jM} {i : Nat} {x : Int64} : rmK v μ (wL μ 120 i x) := ⟨rfl, fun c hc => wL_ne hc, fun _ _ => rfl, fun _ _ _ _ => rfl⟩
theorem rmK_3 {v : Nat} {F : List Nat} {μ μ' : jM} (h : mO3 [] F [] μ μ') (hF : ∀ f ∈ F, f ∈ rF) : rmK v μ μ' := ⟨h.1, fun c _ => h.2.2.2 c (by simp), fun f hf => h.2.2.1 f (fun z => hf (hF f z)), fun c i hc _ => by rw [h.2.1 c hc (by simp)]⟩
def sM (w : Nat × Nat) (μ : jM) : Prop := μ.1 112 15 = nI w.1 ∧ (w.1 ≠ 0 → μ.1 112 16 = nI w.2)
/-- no FAULT of form so far -/
def okM (Y : List Int32) (t : Nat) (w : Nat × Nat) (μ : jM) : Prop := lexM μ Y ∧ (t ≤ 400 ∧ gd Y t) ∧ wOK Y t w ∧ μ.1 112 11 = nI t ∧ μ.1 112 13 = 0 ∧ sM w μ
/-- a FAULT of form -/
def mB (e : pF) (μ : jM) : Prop := (e.1 = 1 ∨ e.1 = 2) ∧ μ.1 112 13 = nI e.1 ∧ μ.1 112 14 = nI e.2 ∧ ∃ t, t ≤ 400 ∧ μ.1 112 11 = nI t
abbrev fF : List Nat := [11, 13, 14]
abbrev fG : List Nat := [11, 13, 14, 15, 16]
def pR {α : Type} (x : Except pF α) (ok : α → jM → Prop) (bad : pF → jM → Prop) (μ : jM) : Prop := match x with
  | .ok a => ok a μ
  | .error e => bad e μ
theorem mB_13 {e : pF} {μ : jM} (h : mB e μ) : ¬ μ.1 112 13 = 0 ∧ ¬ μ.1 112 13 ≤ 0 ∧ 0 < μ.1 112 13 := by
  obtain ⟨h1, h2, -⟩ := h
  rw [h2]
  rcases h1 with h | h <;> rw [h] <;> decide
theorem mB_off {e : pF} {F : List Nat} {C L : List Nat} {μ μ' : jM} (h : mB e μ) (ho : mO3 C F L μ μ') (h1 : 11 ∉ F := by decide) (h2 : 13 ∉ F := by decide) (h3 : 14 ∉ F := by decide) : mB e μ' := by
  unfold mB at h ⊢
  rw [ho.f 11 h1, ho.f 13 h2, ho.f 14 h3]; exact h
theorem sM_off {w : Nat × Nat} {C F L : List Nat} {μ μ' : jM} (h : sM w μ) (ho : mO3 C F L μ μ') (h1 : 15 ∉ F := by decide) (h2 : 16 ∉ F := by decide) : sM w μ' := by
  unfold sM at h ⊢
  rw [ho.f 15 h1, ho.f 16 h2]; exact h
theorem lexM_off {Y : List Int32} {C F L : List Nat} {μ μ' : jM} (h : lexM μ Y) (ho : mO3 C F L μ μ') (h1 : 115 ∉ C := by decide) (h2 : 116 ∉ C := by decide) (h3 : 117 ∉ C := by decide) (h4 : 118 ∉ L := by decide) : lexM μ' Y := by
  unfold lexM tkM at h ⊢
  rw [ho.c 115 (by decide) h1, ho.c 116 (by decide) h2, ho.c 117 (by decide) h3, ho.g 118 h4]; exact h
/-- the state but for the place read at -/
theorem okM_t {Y : List Int32} {t t' : Nat} {w : Nat × Nat} {μ : jM} (h : okM Y t w μ) (ht : t' ≤ 400 ∧ gd Y t') (hw : wOK Y t' w) : okM Y t' w (wI μ 112 11 (nI t')) := by
  obtain ⟨h1, h2, h3, h4, h5, h6⟩ := h
  have ho : mO3 [] [11] [] μ (wI μ 112 11 (nI t')) := mO3_wF (by decide)
  exact ⟨lexM_off h1 ho, ht, hw, wI_at, by rw [ho.f 13]; exact h5, sM_off h6 ho⟩
theorem okM_off {Y : List Int32} {t : Nat} {w : Nat × Nat} {C F L : List Nat} {μ μ' : jM} (h : okM Y t w μ) (ho : mO3 C F L μ μ') (c1 : 115 ∉ C := by decide) (c2 : 116 ∉ C := by decide) (c3 : 117 ∉ C := by decide) (c4 : 118 ∉ L := by decide) (h1 : 11 ∉ F := by decide) (h2 : 13 ∉ F := by decide) (h3 : 15 ∉ F := by decide) (h4 : 16 ∉ F := by decide) : okM Y t w μ' := by
  obtain ⟨a1, a2, a3, a4, a5, a6⟩ := h
  exact ⟨lexM_off a1 ho c1 c2 c3 c4, a2, a3, by rw [ho.f 11 h1]; exact a4, by rw [ho.f 13 h2]; exact a5, sM_off a6 ho h3 h4⟩
theorem pl_31 {Y : List Int32} {i : Nat} (h : Y.length ≤ 2000) : pl Y i < 2 ^ 31 := by
  have := pl_le (Y := Y) (i := i); omega
section ParM
variable {l : Launch} {G : jG}
theorem c_X12_is (hG : gMM G) {μ : jM} (hP : gNN μ) {Y : List Int32} {t : Nat} {w : Nat × Nat} (h : okM Y t w μ) {k : Nat} {x : Int32} (hx : x = nI k) (hk : k < 2 ^ 31) : jC0 l mX12_is 0 G [.ref 112, .int x] μ (pI fun v μ' => v = b01 (decide (kd Y t = k)) ∧ μ' = μ) := by
  subst hx
  refine jC0.of' (ls := [.ref 112, .int (nI k)]) rfl rfl rfl (fun _ _ => Nat.le_of_ble_eq_true rfl) ?_
  obtain ⟨h1, h2, h3, h4, h5, h6⟩ := h
  have e1 : μ.1 115 (μ.1 112 11).toNatClampNeg = nI (kd Y t) := by rw [h4, nI_clamp (by omega)]; exact (h1 t h2.1 h2.2).1
  have hkd := kd_in (Y := Y) (i := t)
  refine b_X12_is_0 hG hP (fun z => absurd h5 z) (fun _ => by rw [h4]; exact vp_in_nI (by omega) (by decide)) (fun _ h => ⟨?_, rfl⟩) (fun _ h => ⟨?_, rfl⟩)
  · rw [e1, nI_eq (by omega) hk] at h
    rw [decide_eq_false h]; rfl
  · rw [e1, nI_eq (by omega) hk] at h
    rw [decide_eq_true h]; rfl
theorem d_X12_is (hG : gMM G) {μ : jM} (hP : gNN μ) {e : pF} (h : mB e μ) (x : Int32) : jC0 l mX12_is 0 G [.ref 112, .int x] μ (pI fun v μ' => v = 0 ∧ μ' = μ) := by
  refine jC0.of' (ls := [.ref 112, .int x]) rfl rfl rfl (fun _ _ => Nat.le_of_ble_eq_true rfl) ?_
  exact b_X12_is_0 hG hP (fun _ => ⟨rfl, rfl⟩) (fun z => absurd z (mB_13 h).1) (fun z => absurd z (mB_13 h).1) (fun z => absurd z (mB_13 h).1)
theorem c_X12_fail (hG : gMM G) {μ : jM} (hP : gNN μ) {Y : List Int32} {t : Nat} {w : Nat × Nat} (h : okM Y t w μ) {k : Nat} {x : Int32} (hx : x = nI k) (hk : k = 1 ∨ k = 2) : jC0 l mX12_fail 0 G [.ref 112, .int x] μ (pV fun μ' => mB (k, pl Y t) μ' ∧ mO3 [] fF [] μ μ') := by
  subst hx
  refine jC0.of' (ls := [.ref 112, .int (nI k)]) rfl rfl rfl (fun _ _ => Nat.le_of_ble_eq_true rfl) ?_
  obtain ⟨h1, h2, h3, h4, h5, h6⟩ := h
  have e1 : μ.1 116 (μ.1 112 11).toNatClampNeg = nI (pl Y t) := by rw [h4, nI_clamp (by omega)]; exact (h1 t h2.1 h2.2).2.1
  have hle : μ.1 112 13 ≤ 0 := by rw [h5]; decide
  refine b_X12_fail_0 hG hP (fun _ => by rw [h4]; exact vp_in_nI (by omega) (by decide)) (fun _ => ?_) (fun z => absurd hle z)
  rw [e1]
  refine ⟨⟨hk, ?_, wI_at, t, h2.1, ?_⟩, mO3.trans (μ1 := wI μ 112 13 (nI k)) (mO3_wF (by decide)) (mO3_wF (by decide))⟩
  · rw [wI_off' (by decide), wI_at]
  · rw [wI_off' (by decide), wI_off' (by decide)]; exact h4
theorem d_X12_fail (hG : gMM G) {μ : jM} (hP : gNN μ) {e : pF} (h : mB e μ) (x : Int32) : jC0 l mX12_fail 0 G [.ref 112, .int x] μ (pV fun μ' => μ' = μ) := by
  refine jC0.of' (ls := [.ref 112, .int x]) rfl rfl rfl (fun _ _ => Nat.le_of_ble_eq_true rfl) ?_
  exact b_X12_fail_0 hG hP (fun z => absurd z (mB_13 h).2.1) (fun z => absurd z (mB_13 h).2.1) (fun _ => rfl)
theorem c_X12_goesOn (hG : gMM G) {μ : jM} (hP : gNN μ) {Y : List Int32} {t : Nat} {w : Nat × Nat} (h : okM Y t w μ) : jC0 l mX12_goesOn 1 G [.ref 112] μ (pV (pR (tke Y t) (fun t' μ' => μ' = wI μ 112 11 (nI t')) (fun e μ' => mB e μ' ∧ mO3 [] fF [] μ μ'))) := by
  refine jC0.of' (ls := [.ref 112]) rfl rfl rfl (fun _ _ => Nat.le_of_ble_eq_true rfl) ?_
  have h2 := h.2.1
  have h4 := h.2.2.2.1
  have e4 : μ.1 112 11 = 400 ↔ t = 400 := by rw [h4]; exact nI_eq (b := 400) (by omega) (by decide)
  unfold tke
  by_cases ht : t = 400
  · rw [if_pos ht]
    refine b_X12_goesOn_0 hG hP (fun z => absurd (e4.mpr ht) z) (fun _ => c_X12_fail hG hP h (k := 2) rfl (Or.inr rfl)) (fun _ μ' h' => ?_)
    exact b_X12_goesOn_15 hG (h'.2.gNN hP) h'
  · rw [if_neg ht]
    refine b_X12_goesOn_0 (ψ1 := fun _ => True) hG hP (fun _ => ?_) (fun z => absurd (e4.mp z) ht) (fun z => absurd (e4.mp z) ht)
    show _ = _
    rw [h4, nI_inc]
theorem d_X12_goesOn (hG : gMM G) {μ : jM} (hP : gNN μ) {e : pF} (h : mB e μ) : jC0 l mX12_goesOn 1 G [.ref 112] μ (pV fun μ' => mB e μ' ∧ mO3 [] fF [] μ μ') := by
  refine jC0.of' (ls := [.ref 112]) rfl rfl rfl (fun _ _ => Nat.le_of_ble_eq_true rfl) ?_
  obtain ⟨a, b, c, t, ht, h4⟩ := h
  have e4 : μ.1 112 11 = 400 ↔ t = 400 := by rw [h4]; exact nI_eq (b := 400) (by omega) (by decide)
  refine b_X12_goesOn_0 hG hP (fun z => ?_) (fun _ => d_X12_fail hG hP ⟨a, b, c, t, ht, h4⟩ _) (fun _ μ' h' => ?_)
  · have : t ≠ 400 := fun q => z (e4.mpr q)
    refine ⟨⟨a, by rw [wI_off' (by decide)]; exact b, by rw [wI_off' (by decide)]; exact c, t + 1, by omega, by rw [wI_at, h4, nI_inc]⟩, mO3_wF (by decide)⟩
  · subst h'
    exact b_X12_goesOn_15 hG hP ⟨⟨a, b, c, t, ht, h4⟩, mO3.refl⟩
theorem c_X12_must (hG : gMM G) {μ : jM} (hP : gNN μ) {Y : List Int32} {t : Nat} {w : Nat × Nat} (h : okM Y t w μ) {k : Nat} {x : Int32} (hx : x = nI k) (hk : k < 2 ^ 31) : jC0 l mX12_must 2 G [.ref 112, .int x] μ (pV (pR (xpc Y k t) (fun t' μ' => μ' = wI μ 112 11 (nI t')) (fun e μ' => mB e μ' ∧ mO3 [] fF [] μ μ'))) := by
  refine jC0.of' (ls := [.ref 112, .int x]) rfl rfl rfl (fun _ _ => Nat.le_of_ble_eq_true rfl) ?_
  refine b_X12_must_0 hG hP (c_X12_is hG hP h hx hk) (fun v μ' h' => ?_)
  obtain ⟨rfl, rfl⟩ := h'
  unfold xpc
  by_cases ek : kd Y t = k
  · rw [if_pos ek, decide_eq_true ek]
    refine b_X12_must_5 (ψ0 := fun _ => True) hG hP (fun z => by cases z) (fun z => by cases z) (fun _ => c_X12_goesOn hG hP h) (fun _ μ1 h1 => ?_)
    have P1 : gNN μ1 := by
      unfold pR at h1
      cases hh : tke Y t with
      | ok t' => rw [hh] at h1; have h1 : μ1 = _ := h1; rw [h1]; exact gNN_of (μ := μ') rfl hP
      | error e => rw [hh] at h1; exact h1.2.gNN hP
    exact b_X12_must_12 hG P1 h1
  · rw [if_neg ek, decide_eq_false ek]
    refine b_X12_must_5 (ψ1 := fun _ => True) hG hP (fun _ => c_X12_fail hG hP h (k := 1) rfl (Or.inl rfl)) (fun _ μ1 h1 => ?_) (fun z => absurd rfl z) (fun z => absurd rfl z)
    exact b_X12_must_20 hG (h1.2.gNN hP) h1
theorem d_X12_must (hG : gMM G) {μ : jM} (hP : gNN μ) {e : pF} (h : mB e μ) (x : Int32) : jC0 l mX12_must 2 G [.ref 112, .int x] μ (pV fun μ' => mB e μ' ∧ mO3 [] fF [] μ μ') := by
  refine jC0.of' (ls := [.ref 112, .int x]) rfl rfl rfl (fun _ _ => Nat.le_of_ble_eq_true rfl) ?_
  refine b_X12_must_0 hG hP (d_X12_is hG hP h x) (fun v μ' h' => ?_)
  obtain ⟨rfl, rfl⟩ := h'
  refine b_X12_must_5 (ψ1 := fun _ => True) hG hP (fun _ => d_X12_fail hG hP h _) (fun _ μ1 h1 => ?_) (fun z => absurd rfl z) (fun z => absurd rfl z)
  subst h1
  exact b_X12_must_20 hG hP ⟨h, mO3.refl⟩
/-- a FAULT of sense at token u -/
theorem c_X12_wrong (hG : gMM G) {μ : jM} (hP : gNN μ) {u k p : Nat} {w : Nat × Nat} (h13 : μ.1 112 13 = 0) (hs : sM w μ) (hu : u ≤ 400) (hp : μ.1 116 u = nI p) (hp31 : p < 2 ^ 31) (hk5 : k ≤ 5 ∧ k ≠ 0) (hw5 : w.1 ≤ 5) (hw : w.1 ≠ 0 → w.2 < p ∨ (w.2 = p ∧ w.1 ≤ k)) : jC0 l mX12_wrong 0 G [.ref 112, .int (nI k), .int (nI u)] μ (pV fun μ' => sM (sns w k p) μ' ∧ mO3 [] [15, 16] [] μ μ') := by
  refine jC0.of' (ls := [.ref 112, .int (nI k), .int (nI u), .null]) rfl rfl rfl (fun _ _ => Nat.le_of_ble_eq_true rfl) ?_
  have hle : ¬ 0 < μ.1 112 13 := by rw [h13]; decide
  have cu : (nI u).toNatClampNeg = u := nI_clamp (by omega)
  have e0 : μ.1 112 15 = 0 ↔ w.1 = 0 := by rw [hs.1]; exact nI_eq (b := 0) (by omega) (by decide)
  have no : w.1 ≠ 0 → sM (sns w k p) μ ∧ mO3 [] [15, 16] [] μ μ := fun z => by
    have : sns w k p = w := by unfold sns; rw [if_neg z]
    rw [this]; exact ⟨hs, mO3.refl⟩
  refine b_X12_wrong_0 hG hP (vp_in_nI (by omega) (by decide)) (fun z => absurd z hle) (fun _ z => ?_) (fun _ z _ => no (fun q => z (e0.mpr q))) (fun _ z h1 h2 => ?_) (fun _ z h1 h2 h3 => ?_) (fun _ z _ _ _ => no (fun q => z (e0.mpr q)))
  · have hw0 := e0.mp z
    have : sns w k p = (k, p) := by unfold sns; rw [if_pos hw0]
    rw [this, cu, hp]
    refine ⟨⟨by rw [wI_off' (by decide), wI_at], fun _ => wI_at⟩, mO3.trans (μ1 := wI μ 112 15 (nI k)) (mO3_wF (by decide)) (mO3_wF (by decide))⟩
  · exfalso
    have hw0 : w.1 ≠ 0 := fun q => z (e0.mpr q)
    rw [hs.2 hw0, cu, hp] at h1 h2
    rcases hw hw0 with q | q
    · rw [i32_lt, nI_toInt (by omega), nI_toInt hp31] at h1; omega
    · exact h2 (by rw [q.1])
  · exfalso
    have hw0 : w.1 ≠ 0 := fun q => z (e0.mpr q)
    rw [hs.2 hw0, cu, hp] at h1 h2
    rw [hs.1, i32_lt, nI_toInt (by omega), nI_toInt (by omega)] at h3
    rcases hw hw0 with q | q
    · rw [i32_lt, nI_toInt (by omega), nI_toInt hp31] at h1; omega
    · omega
end ParM
