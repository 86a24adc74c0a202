/-! what holds all along: LAWS, tellings -/
def szB (br : Option (sE × sE) × sE) : Nat := match br.1 with
  | none => br.2.length + 1
  | some uv => uv.1.length + uv.2.length + br.2.length + 2
def szL (L : sLaw) : Nat := (L.map szB).sum
theorem szL_app {L : sLaw} {br : Option (sE × sE) × sE} : szL (L ++ [br]) = szL L + szB br := by unfold szL; simp
def lOK (L : sLaw) : Prop := wfL L ∧ e9L L
theorem lOK_app {L : sLaw} {br : Option (sE × sE) × sE} (h : lOK L) (h1 : rW br.2 0 = some 1 ∧ e9 br.2) (h2 : ∀ uv, br.1 = some uv → (rW uv.1 0 = some 1 ∧ rW uv.2 0 = some 1) ∧ e9 uv.1 ∧ e9 uv.2) : lOK (L ++ [br]) := by
  obtain ⟨b, w⟩ := br
  refine ⟨fun x hx => ?_, fun x hx => ?_⟩
  · rcases List.mem_append.mp hx with h' | h'
    · exact h.1 x h'
    · rw [List.mem_singleton] at h'
      subst h'
      cases b with
      | none => exact ⟨h1.1, trivial⟩
      | some uv => exact ⟨h1.1, (h2 uv rfl).1⟩
  · rcases List.mem_append.mp hx with h' | h'
    · exact h.2 x h'
    · rw [List.mem_singleton] at h'
      subst h'
      cases b with
      | none => exact ⟨h1.2, trivial⟩
      | some uv => exact ⟨h1.2, (h2 uv rfl).2⟩
theorem lwL_ok {Y : List Int32} {b c : Nat} : ∀ (n t : Nat) (L : sLaw) (r : Nat × sLaw), (t ≤ 400 ∧ gd Y t) → lOK L → b + szL L + 1 ≤ t → c + 4 * L.length ≤ t → lwL Y n t L = .ok r → (r.1 ≤ 400 ∧ gd Y r.1) ∧ lOK r.2 ∧ b + szL r.2 ≤ r.1 ∧ c + 4 * r.2.length ≤ r.1 + 3 ∧ t < r.1 ∧ L.length < r.2.length := by
  intro n
  induction n with
  | zero => intro t L r _ _ _ _ e; cases e
  | succ n ih =>
    intro t L r ht hL hb hc e
    unfold lwL at e
    split at e
    next hk =>
      split at e
      · cases e
      · obtain ⟨t1, e1, e⟩ := bd_inv e
        obtain ⟨rfl, h4⟩ := tke_ok e1
        have g1 : gd Y (t + 1) := gd_s ht.2 (by omega) (by omega)
        obtain ⟨r1, e2, e⟩ := bd_inv e
        obtain ⟨a1, b1⟩ := exS_ok (by omega) g1 e2
        obtain ⟨t2, e3, e⟩ := bd_inv e
        obtain ⟨k3, rfl, h43⟩ := xpc_ok e3
        have g2 : gd Y (r1.1 + 1) := gd_s a1.1.2 (by omega) (by omega)
        have l1 := a1.1.1
        obtain ⟨r2, e4, e⟩ := bd_inv e
        obtain ⟨a2, b2⟩ := exS_ok (by omega) g2 e4
        obtain ⟨t3, e5, e⟩ := bd_inv e
        obtain ⟨k5, rfl, h45⟩ := xpc_ok e5
        have g3 : gd Y (r2.1 + 1) := gd_s a2.1.2 (by omega) (by omega)
        have l2 := a2.1.1
        obtain ⟨r3, e6, e⟩ := bd_inv e
        obtain ⟨a3, b3⟩ := exS_ok (by omega) g3 e6
        obtain ⟨t4, e7, e⟩ := bd_inv e
        obtain ⟨k7, rfl, h47⟩ := xpc_ok e7
        have g4 : gd Y (r3.1 + 1) := gd_s a3.1.2 (by omega) (by omega)
        have l3 := a3.1.1
        have m1 := a1.2.2.2
        have m2 := a2.2.2.2
        have m3 := a3.2.2.2
        obtain ⟨q1, q2, q3, q4, q5, q6⟩ := ih _ _ _ ⟨by omega, g4⟩ (lOK_app hL ⟨a3.2.1, a3.2.2.1⟩ (fun uv h => by cases h; exact ⟨⟨a1.2.1, a2.2.1⟩, a1.2.2.1, a2.2.2.1⟩)) (by rw [szL_app]; show b + (szL L + (r1.2.length + r2.2.length + r3.2.length + 2)) + 1 ≤ _; omega) (by rw [List.length_append, List.length_singleton]; omega) e
        rw [List.length_append, List.length_singleton] at q6
        exact ⟨q1, q2, q3, q4, by omega, by omega⟩
    next hk =>
      obtain ⟨r1, e2, e⟩ := bd_inv e
      obtain ⟨a1, b1⟩ := exS_ok (by omega) ht.2 e2
      cases e
      have m1 := a1.2.2.2
      refine ⟨a1.1, lOK_app hL ⟨a1.2.1, a1.2.2.1⟩ (fun uv h => by cases h), ?_, ?_, b1, ?_⟩
      · rw [szL_app]; show b + (szL L + (r1.2.length + 1)) ≤ r1.1; omega
      · rw [List.length_append, List.length_singleton]; show _ ≤ r1.1 + 3; omega
      · rw [List.length_append, List.length_singleton]; omega
def okN : nL → Nat → Prop
  | [], _ => True
  | x :: r, s => (x.2 = NON ∧ okN r s) ∨ (x.2 = s ∧ s ≠ NON ∧ okN r (s + 1))
theorem okN_app {x : List Nat × Nat} : ∀ (N : nL) (s : Nat), okN N s → (x.2 = NON ∨ (x.2 = s + (plN N).length ∧ x.2 ≠ NON)) → okN (N ++ [x]) s := by
  intro N
  induction N with
  | nil =>
    intro s _ h
    rcases h with h | ⟨h, h'⟩
    · exact Or.inl ⟨h, trivial⟩
    · have h : x.2 = s := h
      exact Or.inr ⟨h, by rw [← h]; exact h', trivial⟩
  | cons y N ih =>
    intro s h hx
    rcases h with ⟨h1, h2⟩ | ⟨h1, h2, h3⟩
    · refine Or.inl ⟨h1, ih s h2 ?_⟩
      have : plN (y :: N) = plN N := by unfold plN; simp [h1]
      rw [this] at hx; exact hx
    · refine Or.inr ⟨h1, h2, ih (s + 1) h3 ?_⟩
      have : (plN (y :: N)).length = (plN N).length + 1 := by unfold plN; rw [List.filter_cons_of_pos (by simp [h1, h2])]; simp
      rw [this] at hx
      rcases hx with hx | ⟨hx, hx'⟩
      · exact Or.inl hx
      · exact Or.inr ⟨by omega, hx'⟩
theorem plN_p {N : nL} {w : List Nat} {a : Nat} (h : a ≠ NON) : plN (N ++ [(w, a)]) = plN N ++ [w] := by unfold plN; simp [h]
theorem plN_g {N : nL} {w : List Nat} : plN (N ++ [(w, NON)]) = plN N := by unfold plN; simp
theorem ghN_p {N : nL} {w : List Nat} {a : Nat} (h : a ≠ NON) : ghN (N ++ [(w, a)]) = ghN N := by unfold ghN; simp [h]
theorem ghN_g {N : nL} {w : List Nat} : ghN (N ++ [(w, NON)]) = ghN N ++ [w] := by unfold ghN; simp
theorem fid_in : ∀ (l : List (List Nat)) (n : List Nat) (i : Nat), fid l n i = NON ∨ (i ≤ fid l n i ∧ fid l n i < i + l.length) := by
  intro l
  induction l with
  | nil => intro n i; exact Or.inl rfl
  | cons w l ih =>
    intro n i
    unfold fid
    split
    · exact Or.inr ⟨Nat.le_refl _, by simp⟩
    · rcases ih n (i + 1) with h | ⟨h1, h2⟩
      · exact Or.inl h
      · exact Or.inr ⟨by omega, by rw [List.length_cons]; omega⟩
/-- what is read so far -/
def pOK (Y : List Int32) (t : Nat) (w : Nat × Nat) (T : sT) (Lw : Nat → sLaw) (N : nL) : Prop :=
  (t ≤ 400 ∧ gd Y t) ∧ (w.1 ≤ 5 ∧ (w.1 ≠ 0 → w.2 < pl Y t)) ∧ (T 0 0 ≤ 8 ∧ T 0 1 ≤ 12 ∧ T 0 2 ≤ 7 ∧ T 0 3 < 2 ^ T 0 1) ∧ (okN N 0 ∧ (plN N).length = T 0 0 ∧ (ghN N).length = T 0 2 ∧ ∀ x ∈ N, okW x.1) ∧ (∀ q, lOK (Lw q) ∧ szL (Lw q) ≤ 400) ∧ (w.1 = 0 → vT T Lw)
/-- FAULTS of sense: none, or one before here -/
def wOK (Y : List Int32) (t : Nat) (w : Nat × Nat) : Prop := w.1 ≤ 5 ∧ (w.1 ≠ 0 → w.2 < pl Y t)
theorem wOK_s {Y : List Int32} {t k : Nat} {w : Nat × Nat} (h : wOK Y t w) (h0 : kd Y t ≠ 0) (hk : k ≤ 5) : wOK Y (t + 1) (sns w k (pl Y t)) ∧ wOK Y (t + 1) w := by
  have hl := pl_lt h0
  have h1 : wOK Y (t + 1) w := ⟨h.1, fun z => Nat.lt_trans (h.2 z) hl⟩
  refine ⟨?_, h1⟩
  unfold sns
  split
  · exact ⟨hk, fun _ => hl⟩
  · exact h1
theorem sns_0 {w : Nat × Nat} {k p : Nat} (hk : k ≠ 0) (h : (sns w k p).1 = 0) : False := by
  unfold sns at h
  split at h
  · exact hk h
  · contradiction
theorem nwN_ok {Y : List Int32} {t : Nat} {w : Nat × Nat} {N : nL} {r : Nat × (Nat × Nat)} (ht : t ≤ 400 ∧ gd Y t) (hw : wOK Y t w) (e : nwN Y t w N = .ok r) : (r.1 ≤ 400 ∧ gd Y r.1) ∧ wOK Y r.1 r.2 ∧ r.1 = t + 1 ∧ okW (nm Y t) ∧ (r.2.1 = 0 → w.1 = 0) := by
  unfold nwN at e
  obtain ⟨t1, e1, e⟩ := bd_inv e
  obtain ⟨hk, rfl, h4⟩ := xpc_ok e1
  cases e
  have h2 := wOK_s (k := 3) hw (by omega) (by decide)
  refine ⟨⟨by show t + 1 ≤ 400; omega, gd_s ht.2 (by omega) (by omega)⟩, ?_, rfl, nm_ok hk, ?_⟩
  · show wOK Y (t + 1) (if _ then _ else _)
    split
    · exact h2.1
    · exact h2.2
  · show (if _ then _ else _ : Nat × Nat).1 = 0 → _
    split
    · exact fun h => (sns_0 (by decide) h).elim
    · exact fun h => h
theorem olP_ok {Y : List Int32} {b t : Nat} {w : Nat × Nat} {N : nL} {r : Nat × (Nat × Nat) × Nat} (ht : t ≤ 400 ∧ gd Y t) (hw : wOK Y t w) (e : olP Y b t w N = .ok r) : (r.1 ≤ 400 ∧ gd Y r.1) ∧ wOK Y r.1 r.2.1 ∧ r.1 = t + 1 ∧ (r.2.1.1 = 0 → w.1 = 0 ∧ r.2.2 < (plN N).length ∧ r.2.2 ≠ b) := by
  unfold olP at e
  obtain ⟨t1, e1, e⟩ := bd_inv e
  obtain ⟨hk, rfl, h4⟩ := xpc_ok e1
  cases e
  refine ⟨⟨by show t + 1 ≤ 400; omega, gd_s ht.2 (by omega) (by omega)⟩, ?_, rfl, ?_⟩
  · show wOK Y (t + 1) (olW Y b t w N)
    unfold olW
    split
    · exact (wOK_s hw (by omega) (by decide)).1
    · split
      · exact (wOK_s hw (by omega) (by decide)).1
      · exact (wOK_s (k := 3) hw (by omega) (by decide)).2
  · show (olW Y b t w N).1 = 0 → w.1 = 0 ∧ fid (plN N) (nm Y t) 0 < _ ∧ _ ≠ b
    unfold olW
    split
    · exact fun h => (sns_0 (by decide) h).elim
    · next h1 =>
      split
      · exact fun h => (sns_0 (by decide) h).elim
      · next h2 =>
        intro h
        rcases fid_in (plN N) (nm Y t) 0 with h3 | h3
        · exact absurd h3 h1
        · exact ⟨h, by omega, h2⟩
theorem nmb_ok {Y : List Int32} {lo hi t : Nat} {w : Nat × Nat} {r : Nat × (Nat × Nat) × Nat} (ht : t ≤ 400 ∧ gd Y t) (hw : wOK Y t w) (e : nmb Y lo hi t w = .ok r) : (r.1 ≤ 400 ∧ gd Y r.1) ∧ wOK Y r.1 r.2.1 ∧ r.1 = t + 1 ∧ (r.2.1.1 = 0 → w.1 = 0 ∧ lo ≤ r.2.2 ∧ r.2.2 ≤ hi) := by
  unfold nmb at e
  obtain ⟨t1, e1, e⟩ := bd_inv e
  obtain ⟨hk, rfl, h4⟩ := xpc_ok e1
  cases e
  refine ⟨⟨by show t + 1 ≤ 400; omega, gd_s ht.2 (by omega) (by omega)⟩, ?_, rfl, ?_⟩
  · show wOK Y (t + 1) (nbW Y lo hi t w)
    unfold nbW
    split
    · exact (wOK_s (k := 3) hw (by omega) (by decide)).2
    · exact (wOK_s hw (by omega) (by decide)).1
  · show (nbW Y lo hi t w).1 = 0 → _
    unfold nbW
    split
    · next h => exact fun z => ⟨z, h⟩
    · exact fun h => (sns_0 (by decide) h).elim
theorem opt_ok {Y : List Int32} {k t : Nat} {w : Nat × Nat} {r : Nat × Nat} (hk : k = 22 ∨ k = 23) (ht : t ≤ 400 ∧ gd Y t) (hw : wOK Y t w) (e : opt Y k t = .ok r) : (r.1 ≤ 400 ∧ gd Y r.1) ∧ wOK Y r.1 w ∧ t ≤ r.1 ∧ r.2 ≤ 1 := by
  unfold opt at e
  split at e
  · next h =>
    obtain ⟨t1, e1, e⟩ := bd_inv e
    obtain ⟨rfl, h4⟩ := tke_ok e1
    cases e
    exact ⟨⟨by show t + 1 ≤ 400; omega, gd_s ht.2 (by omega) (by omega)⟩, (wOK_s (k := 3) hw (by omega) (by decide)).2, by show t ≤ t + 1; omega, Nat.le_refl _⟩
  · cases e; exact ⟨ht, hw, Nat.le_refl _, Nat.zero_le _⟩
theorem xpc_w {Y : List Int32} {k t t' : Nat} {w : Nat × Nat} (hk : k ≠ 0 ∧ k ≠ 3) (ht : t ≤ 400 ∧ gd Y t) (hw : wOK Y t w) (e : xpc Y k t = .ok t') : (t' ≤ 400 ∧ gd Y t') ∧ wOK Y t' w ∧ t' = t + 1 := by
  obtain ⟨h, rfl, h4⟩ := xpc_ok e
  exact ⟨⟨by omega, gd_s ht.2 (by omega) (by omega)⟩, (wOK_s (k := 3) hw (by omega) (by decide)).2, rfl⟩
theorem tke_w {Y : List Int32} {t t' : Nat} {w : Nat × Nat} (hk : kd Y t ≠ 0 ∧ kd Y t ≠ 3) (ht : t ≤ 400 ∧ gd Y t) (hw : wOK Y t w) (e : tke Y t = .ok t') : (t' ≤ 400 ∧ gd Y t') ∧ wOK Y t' w ∧ t' = t + 1 := by
  obtain ⟨rfl, h4⟩ := tke_ok e
  exact ⟨⟨by omega, gd_s ht.2 hk.1 hk.2⟩, (wOK_s (k := 3) hw hk.1 (by decide)).2, rfl⟩
abbrev pOK' (Y : List Int32) (s : pS) : Prop := pOK Y s.1 s.2.1 s.2.2.1 s.2.2.2.1 s.2.2.2.2
theorem NON_big {n : Nat} (h : n ≤ 100) : n ≠ NON := by unfold NON; omega
theorem tlP_ok {Y : List Int32} {t : Nat} {w : Nat × Nat} {T : sT} {Lw : Nat → sLaw} {N : nL} {s : pS} (h : pOK Y t w T Lw N) (hk : kd Y t = 20) (e : tlP Y t w T Lw N = .ok s) : pOK' Y s ∧ t < s.1 := by
  obtain ⟨ht, hw, ⟨h1, h2, h3, h3b⟩, ⟨n1, n2, n3, n4⟩, hl, hv⟩ := h
  unfold tlP at e
  split at e
  · cases e
  · next h8 =>
    obtain ⟨t1, e1, e⟩ := bd_inv e
    obtain ⟨a1, a2, rfl⟩ := tke_w (by omega) ht hw e1
    obtain ⟨r, e2, e⟩ := bd_inv e
    obtain ⟨b1, b2, b3, b4, b5⟩ := nwN_ok a1 a2 e2
    obtain ⟨t3, e3, e⟩ := bd_inv e
    obtain ⟨c1, c2, rfl⟩ := xpc_w (by decide) b1 b2 e3
    cases e
    have hN := NON_big (n := T 0 0) (by omega)
    refine ⟨⟨c1, c2, ⟨?_, ?_, ?_, ?_⟩, ⟨okN_app N 0 n1 (Or.inr ⟨by rw [n2]; exact (Nat.zero_add _).symm, hN⟩), ?_, ?_, fun x hx => ?_⟩, hl, fun z => ?_⟩, by show t < r.1 + 1; omega⟩
    · show T 0 0 + 1 ≤ 8; omega
    · exact h2
    · exact h3
    · exact h3b
    · show (plN (N ++ [(nm Y (t + 1), T 0 0)])).length = T 0 0 + 1; rw [plN_p hN, List.length_append, n2]; rfl
    · show (ghN (N ++ [(nm Y (t + 1), T 0 0)])).length = T 0 2; rw [ghN_p hN]; exact n3
    · rcases List.mem_append.mp hx with h' | h'
      · exact n4 x h'
      · rw [List.mem_singleton] at h'; rw [h']; exact b4
    · obtain ⟨v1, v2, v3, v4⟩ := hv (b5 z)
      refine ⟨⟨?_, v1.2.1, v1.2.2.1, v1.2.2.2.1, v1.2.2.2.2.1, v1.2.2.2.2.2.1, v1.2.2.2.2.2.2⟩, fun k hk' => ?_, fun a ha => ?_, v4⟩
      · show T 0 0 + 1 ≤ 8; omega
      · have := v2 k hk'
        exact ⟨Nat.lt_succ_of_lt this.1, Nat.lt_succ_of_lt this.2.1, this.2.2⟩
      · have := v3 a ha
        exact ⟨Nat.lt_succ_of_lt this.1, Nat.lt_succ_of_lt this.2.1, this.2.2⟩
theorem tlR_ok {Y : List Int32} {t : Nat} {w : Nat × Nat} {T : sT} {Lw : Nat → sLaw} {N : nL} {s : pS} (h : pOK Y t w T Lw N) (hk : kd Y t = 21) (e : tlR Y t w T Lw N = .ok s) : pOK' Y s ∧ t < s.1 := by
  obtain ⟨ht, hw, ⟨h1, h2, h3, h3b⟩, ⟨n1, n2, n3, n4⟩, hl, hv⟩ := h
  unfold tlR at e
  split at e
  · cases e
  · next h12 =>
    obtain ⟨t1, e1, e⟩ := bd_inv e
    obtain ⟨a1, a2, rfl⟩ := tke_w (by omega) ht hw e1
    obtain ⟨p, e2, e⟩ := bd_inv e
    obtain ⟨b1, b2, b3, b4⟩ := olP_ok a1 a2 e2
    obtain ⟨p2, e3, e⟩ := bd_inv e
    obtain ⟨c1, c2, c3, c4⟩ := olP_ok b1 b2 e3
    obtain ⟨h', e4, e⟩ := bd_inv e
    obtain ⟨d1, d2, d3, d4⟩ := nmb_ok c1 c2 e4
    obtain ⟨f, e5, e⟩ := bd_inv e
    obtain ⟨f1, f2, f3, f4⟩ := opt_ok (Or.inl rfl) d1 d2 e5
    obtain ⟨g, e6, e⟩ := bd_inv e
    obtain ⟨g1, g2, g3, g4⟩ := opt_ok (Or.inr rfl) f1 f2 e6
    obtain ⟨t7, e7, e⟩ := bd_inv e
    obtain ⟨i1, i2, rfl⟩ := xpc_w (by decide) g1 g2 e7
    cases e
    have hg : T 0 3 + g.2 * 2 ^ T 0 1 < 2 ^ (T 0 1 + 1) := by
      rw [Nat.pow_succ]
      have : g.2 * 2 ^ T 0 1 ≤ 1 * 2 ^ T 0 1 := Nat.mul_le_mul_right _ g4
      omega
    refine ⟨⟨i1, i2, ⟨h1, ?_, h3, hg⟩, ⟨n1, n2, n3, n4⟩, hl, fun z => ?_⟩, by show t < g.1 + 1; omega⟩
    · show T 0 1 + 1 ≤ 12; omega
    · obtain ⟨y1, y2, y3⟩ := d4 z
      obtain ⟨z1, z2, z3⟩ := c4 y1
      obtain ⟨x1, x2, x3⟩ := b4 z1
      rw [n2] at x2 z2
      obtain ⟨v1, v2, v3, v4⟩ := hv x1
      refine ⟨⟨h1, ?_, h3, ?_, v1.2.2.2.2.1, v1.2.2.2.2.2.1, v1.2.2.2.2.2.2⟩, fun k hk' => ?_, v3, v4⟩
      · show T 0 1 + 1 ≤ 12; omega
      · show T 0 3 + g.2 * 2 ^ T 0 1 < 2 ^ 12
        exact Nat.lt_of_lt_of_le hg (Nat.pow_le_pow_right (by decide) (by omega))
      · have hk' : k < T 0 1 + 1 := hk'
        by_cases ek : k = T 0 1
        · subst ek
          have q1 : rdT T p.2.2 p2.2.2 h'.2.2 f.2 g.2 1 (T 0 1) = p.2.2 := by simp [rdT, sT1]
          have q2 : rdT T p.2.2 p2.2.2 h'.2.2 f.2 g.2 2 (T 0 1) = p2.2.2 := by simp [rdT, sT1]
          have q3 : rdT T p.2.2 p2.2.2 h'.2.2 f.2 g.2 3 (T 0 1) = h'.2.2 := by simp [rdT, sT1]
          have q4 : rdT T p.2.2 p2.2.2 h'.2.2 f.2 g.2 4 (T 0 1) = f.2 := by simp [rdT, sT1]
          show rdT T p.2.2 p2.2.2 h'.2.2 f.2 g.2 1 (T 0 1) < T 0 0 ∧ rdT T p.2.2 p2.2.2 h'.2.2 f.2 g.2 2 (T 0 1) < T 0 0 ∧ rdT T p.2.2 p2.2.2 h'.2.2 f.2 g.2 1 (T 0 1) ≠ rdT T p.2.2 p2.2.2 h'.2.2 f.2 g.2 2 (T 0 1) ∧ 1 ≤ rdT T p.2.2 p2.2.2 h'.2.2 f.2 g.2 3 (T 0 1) ∧ rdT T p.2.2 p2.2.2 h'.2.2 f.2 g.2 3 (T 0 1) ≤ 9 ∧ rdT T p.2.2 p2.2.2 h'.2.2 f.2 g.2 4 (T 0 1) ≤ 1
          rw [q1, q2, q3, q4]
          exact ⟨x2, z2, fun q => z3 q.symm, y2, y3, f4⟩
        · have q : ∀ x, 1 ≤ x → rdT T p.2.2 p2.2.2 h'.2.2 f.2 g.2 x k = T x k := fun x hx => by
            have hx0 : x ≠ 0 := by omega
            simp [rdT, sT1, ek, hx0]
          have := v2 k (by omega)
          show rdT T p.2.2 p2.2.2 h'.2.2 f.2 g.2 1 k < T 0 0 ∧ rdT T p.2.2 p2.2.2 h'.2.2 f.2 g.2 2 k < T 0 0 ∧ rdT T p.2.2 p2.2.2 h'.2.2 f.2 g.2 1 k ≠ rdT T p.2.2 p2.2.2 h'.2.2 f.2 g.2 2 k ∧ 1 ≤ rdT T p.2.2 p2.2.2 h'.2.2 f.2 g.2 3 k ∧ rdT T p.2.2 p2.2.2 h'.2.2 f.2 g.2 3 k ≤ 9 ∧ rdT T p.2.2 p2.2.2 h'.2.2 f.2 g.2 4 k ≤ 1
          rw [q 1 (by decide), q 2 (by decide), q 3 (by decide), q 4 (by decide)]; exact this
theorem tlG_ok {Y : List Int32} {t : Nat} {w : Nat × Nat} {T : sT} {Lw : Nat → sLaw} {N : nL} {s : pS} (h : pOK Y t w T Lw N) (hk : kd Y t = 24) (e : tlG Y t w T Lw N = .ok s) : pOK' Y s ∧ t < s.1 := by
  obtain ⟨ht, hw, ⟨h1, h2, h3, h3b⟩, ⟨n1, n2, n3, n4⟩, hl, hv⟩ := h
  unfold tlG at e
  split at e
  · cases e
  · next h7 =>
    obtain ⟨t1, e1, e⟩ := bd_inv e
    obtain ⟨a1, a2, rfl⟩ := tke_w (by omega) ht hw e1
    obtain ⟨r, er, e⟩ := bd_inv e
    obtain ⟨r1, r2, r3, r4, r5⟩ := nwN_ok a1 a2 er
    obtain ⟨p, e2, e⟩ := bd_inv e
    obtain ⟨b1, b2, b3, b4⟩ := olP_ok r1 r2 e2
    obtain ⟨p2, e3, e⟩ := bd_inv e
    obtain ⟨c1, c2, c3, c4⟩ := olP_ok b1 b2 e3
    obtain ⟨h', e4, e⟩ := bd_inv e
    obtain ⟨d1, d2, d3, d4⟩ := nmb_ok c1 c2 e4
    obtain ⟨f, e5, e⟩ := bd_inv e
    obtain ⟨f1, f2, f3, f4⟩ := nmb_ok d1 d2 e5
    obtain ⟨g, e6, e⟩ := bd_inv e
    obtain ⟨g1, g2, g3, g4⟩ := nmb_ok f1 f2 e6
    obtain ⟨t7, e7, e⟩ := bd_inv e
    obtain ⟨i1, i2, rfl⟩ := xpc_w (by decide) g1 g2 e7
    cases e
    refine ⟨⟨i1, i2, ⟨h1, h2, ?_, h3b⟩, ⟨okN_app N 0 n1 (Or.inl rfl), ?_, ?_, fun x hx => ?_⟩, hl, fun z => ?_⟩, by show t < g.1 + 1; omega⟩
    · show T 0 2 + 1 ≤ 7; omega
    · show (plN (N ++ [(nm Y (t + 1), NON)])).length = T 0 0; rw [plN_g]; exact n2
    · show (ghN (N ++ [(nm Y (t + 1), NON)])).length = T 0 2 + 1; rw [ghN_g, List.length_append, n3]; rfl
    · rcases List.mem_append.mp hx with h' | h'
      · exact n4 x h'
      · rw [List.mem_singleton] at h'; rw [h']; exact r4
    · obtain ⟨m1, m2, m3⟩ := g4 z
      obtain ⟨l1, l2, l3⟩ := f4 m1
      obtain ⟨y1, y2, y3⟩ := d4 l1
      obtain ⟨z1, z2, z3⟩ := c4 y1
      obtain ⟨x1, x2, x3⟩ := b4 z1
      rw [n2] at x2 z2
      obtain ⟨v1, v2, v3, v4⟩ := hv (r5 x1)
      refine ⟨⟨h1, h2, ?_, v1.2.2.2.1, v1.2.2.2.2.1, v1.2.2.2.2.2.1, v1.2.2.2.2.2.2⟩, v2, fun k hk' => ?_, v4⟩
      · show T 0 2 + 1 ≤ 7; omega
      · have hk' : k < T 0 2 + 1 := hk'
        by_cases ek : k = T 0 2
        · subst ek
          have q1 : ghT T p.2.2 p2.2.2 h'.2.2 f.2.2 g.2.2 5 (T 0 2) = p.2.2 := by simp [ghT, sT1]
          have q2 : ghT T p.2.2 p2.2.2 h'.2.2 f.2.2 g.2.2 6 (T 0 2) = p2.2.2 := by simp [ghT, sT1]
          have q3 : ghT T p.2.2 p2.2.2 h'.2.2 f.2.2 g.2.2 7 (T 0 2) = h'.2.2 := by simp [ghT, sT1]
          have q4 : ghT T p.2.2 p2.2.2 h'.2.2 f.2.2 g.2.2 8 (T 0 2) = f.2.2 := by simp [ghT, sT1]
          have q5 : ghT T p.2.2 p2.2.2 h'.2.2 f.2.2 g.2.2 9 (T 0 2) = g.2.2 := by simp [ghT, sT1]
          show ghT T p.2.2 p2.2.2 h'.2.2 f.2.2 g.2.2 5 (T 0 2) < T 0 0 ∧ ghT T p.2.2 p2.2.2 h'.2.2 f.2.2 g.2.2 6 (T 0 2) < T 0 0 ∧ ghT T p.2.2 p2.2.2 h'.2.2 f.2.2 g.2.2 5 (T 0 2) ≠ ghT T p.2.2 p2.2.2 h'.2.2 f.2.2 g.2.2 6 (T 0 2) ∧ ghT T p.2.2 p2.2.2 h'.2.2 f.2.2 g.2.2 7 (T 0 2) ≤ 9 ∧ ghT T p.2.2 p2.2.2 h'.2.2 f.2.2 g.2.2 8 (T 0 2) ≤ 99 ∧ 1 ≤ ghT T p.2.2 p2.2.2 h'.2.2 f.2.2 g.2.2 9 (T 0 2) ∧ ghT T p.2.2 p2.2.2 h'.2.2 f.2.2 g.2.2 9 (T 0 2) ≤ 9
          rw [q1, q2, q3, q4, q5]
          exact ⟨x2, z2, fun q => z3 q.symm, y3, l3, m2, m3⟩
        · have q : ∀ x, 1 ≤ x → ghT T p.2.2 p2.2.2 h'.2.2 f.2.2 g.2.2 x k = T x k := fun x hx => by
            have hx0 : x ≠ 0 := by omega
            simp [ghT, sT1, ek, hx0]
          have := v3 k (by omega)
          show ghT T p.2.2 p2.2.2 h'.2.2 f.2.2 g.2.2 5 k < T 0 0 ∧ ghT T p.2.2 p2.2.2 h'.2.2 f.2.2 g.2.2 6 k < T 0 0 ∧ ghT T p.2.2 p2.2.2 h'.2.2 f.2.2 g.2.2 5 k ≠ ghT T p.2.2 p2.2.2 h'.2.2 f.2.2 g.2.2 6 k ∧ ghT T p.2.2 p2.2.2 h'.2.2 f.2.2 g.2.2 7 k ≤ 9 ∧ ghT T p.2.2 p2.2.2 h'.2.2 f.2.2 g.2.2 8 k ≤ 99 ∧ 1 ≤ ghT T p.2.2 p2.2.2 h'.2.2 f.2.2 g.2.2 9 k ∧ ghT T p.2.2 p2.2.2 h'.2.2 f.2.2 g.2.2 9 k ≤ 9
          rw [q 5 (by decide), q 6 (by decide), q 7 (by decide), q 8 (by decide), q 9 (by decide)]; exact this
theorem lOK_nil : lOK [] := ⟨fun _ h => (List.not_mem_nil h).elim, fun _ h => (List.not_mem_nil h).elim⟩
theorem tlL_ok {Y : List Int32} {q t : Nat} {w : Nat × Nat} {T : sT} {Lw : Nat → sLaw} {N : nL} {s : pS} (h : pOK Y t w T Lw N) (hk : kd Y t ≠ 0 ∧ kd Y t ≠ 3) (e : tlL Y q t w T Lw N = .ok s) : pOK' Y s ∧ t < s.1 := by
  obtain ⟨ht, hw, hh, hn, hl, hv⟩ := h
  unfold tlL at e
  obtain ⟨t1, e1, e⟩ := bd_inv e
  obtain ⟨a1, a2, rfl⟩ := tke_w hk ht hw e1
  obtain ⟨t2, e2, e⟩ := bd_inv e
  obtain ⟨b1, b2, rfl⟩ := xpc_w (by decide) a1 a2 e2
  obtain ⟨r, e3, e⟩ := bd_inv e
  obtain ⟨q1, q2, q3, q4, q5, q6⟩ := lwL_ok (b := 0) (c := 0) 5 (t + 1 + 1) [] r b1 lOK_nil (by show 0 + 0 + 1 ≤ _; omega) (Nat.zero_le _) e3
  obtain ⟨t4, e4, e⟩ := bd_inv e
  obtain ⟨k4, rfl, h4⟩ := xpc_ok e4
  cases e
  have hl' : ∀ x, lOK (if x = q then r.2 else Lw x) ∧ szL (if x = q then r.2 else Lw x) ≤ 400 := fun x => by
    split
    · exact ⟨q2, by have := q1.1; omega⟩
    · exact hl x
  have hmono : ∀ m, gd Y (t + 1 + 1 + m) → pl Y (t + 1 + 1) ≤ pl Y (t + 1 + 1 + m) := by
    intro m
    induction m with
    | zero => intro _; exact Nat.le_refl _
    | succ m ih =>
      intro hg
      have h1 := ih (fun j hj => hg j (by omega))
      have h2 := pl_lt (hg (t + 1 + 1 + m) (by omega)).1
      have : t + 1 + 1 + (m + 1) = t + 1 + 1 + m + 1 := by omega
      rw [this]; omega
  have g4 : gd Y (r.1 + 1) := gd_s q1.2 (by omega) (by omega)
  refine ⟨⟨⟨by show r.1 + 1 ≤ 400; have := q1.1; omega, g4⟩, ⟨hw.1, fun z => ?_⟩, hh, hn, hl', fun z => ?_⟩, by show t < r.1 + 1; omega⟩
  · have h1 := b2.2 z
    have h2 := hmono (r.1 + 1 - (t + 1 + 1)) (by rw [show t + 1 + 1 + (r.1 + 1 - (t + 1 + 1)) = r.1 + 1 by omega]; exact g4)
    rw [show t + 1 + 1 + (r.1 + 1 - (t + 1 + 1)) = r.1 + 1 by omega] at h2
    exact Nat.lt_of_lt_of_le h1 h2
  · obtain ⟨v1, v2, v3, v4⟩ := hv z
    exact ⟨v1, v2, v3, fun x => (hl' x).1.1⟩
theorem tl1_ok {Y : List Int32} {t hi i : Nat} {w : Nat × Nat} {T : sT} {Lw : Nat → sLaw} {N : nL} {s : pS} (h : pOK Y t w T Lw N) (hk : kd Y t ≠ 0 ∧ kd Y t ≠ 3) (hi' : (i = 4 ∧ hi = 100) ∨ (i = 7 ∧ hi = 9999)) (e : (bd (tke Y t) fun t1 => bd (nmb Y 0 hi t1 w) fun a => bd (xpc Y 4 a.1) fun t3 => (.ok (t3, a.2.1, sT1 T 0 i a.2.2, Lw, N) : Except pF pS)) = .ok s) : pOK' Y s ∧ t < s.1 := by
  obtain ⟨ht, hw, ⟨h1, h2, h3, h3b⟩, ⟨n1, n2, n3, n4⟩, hl, hv⟩ := h
  obtain ⟨t1, e1, e⟩ := bd_inv e
  obtain ⟨a1, a2, rfl⟩ := tke_w hk ht hw e1
  obtain ⟨a, e2, e⟩ := bd_inv e
  obtain ⟨b1, b2, b3, b4⟩ := nmb_ok a1 a2 e2
  obtain ⟨t3, e3, e⟩ := bd_inv e
  obtain ⟨c1, c2, rfl⟩ := xpc_w (by decide) b1 b2 e3
  cases e
  have q : ∀ j, j ≠ i → sT1 T 0 i a.2.2 0 j = T 0 j := fun j hj => by simp [sT1, hj]
  have q' : ∀ x y, x ≠ 0 → sT1 T 0 i a.2.2 x y = T x y := fun x y hx => by simp [sT1, hx]
  have qi : sT1 T 0 i a.2.2 0 i = a.2.2 := by simp [sT1]
  refine ⟨⟨c1, c2, ⟨?_, ?_, ?_, ?_⟩, ⟨n1, ?_, ?_, n4⟩, hl, fun z => ?_⟩, by show t < a.1 + 1; omega⟩
  · show sT1 T 0 i a.2.2 0 0 ≤ 8; rw [q 0 (by omega)]; exact h1
  · show sT1 T 0 i a.2.2 0 1 ≤ 12; rw [q 1 (by omega)]; exact h2
  · show sT1 T 0 i a.2.2 0 2 ≤ 7; rw [q 2 (by omega)]; exact h3
  · show sT1 T 0 i a.2.2 0 3 < 2 ^ sT1 T 0 i a.2.2 0 1; rw [q 3 (by omega), q 1 (by omega)]; exact h3b
  · show _ = sT1 T 0 i a.2.2 0 0; rw [q 0 (by omega)]; exact n2
  · show _ = sT1 T 0 i a.2.2 0 2; rw [q 2 (by omega)]; exact n3
  · obtain ⟨y1, y2, y3⟩ := b4 z
    obtain ⟨v1, v2, v3, v4⟩ := hv y1
    show vT (sT1 T 0 i a.2.2) Lw
    unfold vT
    rw [q 0 (by omega), q 1 (by omega), q 2 (by omega), q 3 (by omega), q 5 (by omega), q 6 (by omega)]
    refine ⟨⟨v1.1, v1.2.1, v1.2.2.1, v1.2.2.2.1, ?_, v1.2.2.2.2.2.1, v1.2.2.2.2.2.2.1, ?_⟩, fun k hk => ?_, fun k hk => ?_, v4⟩
    · rcases hi' with ⟨rfl, rfl⟩ | ⟨rfl, rfl⟩
      · rw [qi]; exact y3
      · rw [q 4 (by decide)]; exact v1.2.2.2.2.1
    · rcases hi' with ⟨rfl, rfl⟩ | ⟨rfl, rfl⟩
      · rw [q 7 (by decide)]; exact v1.2.2.2.2.2.2.2
      · rw [qi]; exact y3
    · rw [q' 1 _ (by decide), q' 2 _ (by decide), q' 3 _ (by decide), q' 4 _ (by decide)]; exact v2 k hk
    · rw [q' 5 _ (by decide), q' 6 _ (by decide), q' 7 _ (by decide), q' 8 _ (by decide), q' 9 _ (by decide)]; exact v3 k hk
theorem tlM_ok {Y : List Int32} {t : Nat} {w : Nat × Nat} {T : sT} {Lw : Nat → sLaw} {N : nL} {s : pS} (h : pOK Y t w T Lw N) (hk : kd Y t ≠ 0 ∧ kd Y t ≠ 3) (e : tlM Y t w T Lw N = .ok s) : pOK' Y s ∧ t < s.1 := by
  obtain ⟨ht, hw, ⟨h1, h2, h3, h3b⟩, ⟨n1, n2, n3, n4⟩, hl, hv⟩ := h
  unfold tlM at e
  obtain ⟨t1, e1, e⟩ := bd_inv e
  obtain ⟨a1, a2, rfl⟩ := tke_w hk ht hw e1
  obtain ⟨a, e2, e⟩ := bd_inv e
  obtain ⟨b1, b2, b3, b4⟩ := nmb_ok a1 a2 e2
  obtain ⟨b, e2', e⟩ := bd_inv e
  obtain ⟨d1, d2, d3, d4⟩ := nmb_ok b1 b2 e2'
  obtain ⟨t3, e3, e⟩ := bd_inv e
  obtain ⟨c1, c2, rfl⟩ := xpc_w (by decide) d1 d2 e3
  cases e
  refine ⟨⟨c1, c2, ⟨h1, h2, h3, h3b⟩, ⟨n1, n2, n3, n4⟩, hl, fun z => ?_⟩, by show t < b.1 + 1; omega⟩
  obtain ⟨x1, x2, x3⟩ := d4 z
  obtain ⟨y1, y2, y3⟩ := b4 x1
  obtain ⟨v1, v2, v3, v4⟩ := hv y1
  exact ⟨⟨v1.1, v1.2.1, v1.2.2.1, v1.2.2.2.1, v1.2.2.2.2.1, y3, x3, v1.2.2.2.2.2.2.2⟩, v2, v3, v4⟩
theorem tll_ok {Y : List Int32} {t : Nat} {w : Nat × Nat} {T : sT} {Lw : Nat → sLaw} {N : nL} {s : pS} (h : pOK Y t w T Lw N) (e : tll Y t w T Lw N = .ok s) : pOK' Y s ∧ t < s.1 := by
  unfold tll at e
  repeat' split at e
  · exact tlP_ok h (by assumption) e
  · exact tlR_ok h (by assumption) e
  · exact tlG_ok h (by assumption) e
  · exact tl1_ok h (by omega) (Or.inl ⟨rfl, rfl⟩) e
  · exact tlM_ok h (by omega) e
  · exact tl1_ok h (by omega) (Or.inr ⟨rfl, rfl⟩) e
  · exact tlL_ok h (by omega) e
  · cases e
theorem pOK_0 {Y : List Int32} : pOK Y 0 (0, 0) T0 dLaw [] := by
  have hd : ∀ q, lOK (dLaw q) ∧ szL (dLaw q) ≤ 400 := fun q => by
    unfold dLaw
    split
    · refine ⟨⟨?_, ?_⟩, by decide⟩
      · intro br hb; rw [List.mem_singleton] at hb; subst hb; exact ⟨rfl, trivial⟩
      · intro br hb; rw [List.mem_singleton] at hb; subst hb
        refine ⟨?_, trivial⟩
        intro q hq h0
        rw [List.mem_singleton] at hq; subst hq; cases h0
    · refine ⟨⟨?_, ?_⟩, by decide⟩
      · intro br hb; rw [List.mem_singleton] at hb; subst hb; exact ⟨rfl, trivial⟩
      · intro br hb; rw [List.mem_singleton] at hb; subst hb
        refine ⟨?_, trivial⟩
        intro q hq h0
        rw [List.mem_singleton] at hq; subst hq; exact ⟨by decide, by decide⟩
    · refine ⟨⟨?_, ?_⟩, by decide⟩
      · intro br hb; rw [List.mem_singleton] at hb; subst hb; exact ⟨rfl, trivial⟩
      · intro br hb; rw [List.mem_singleton] at hb; subst hb
        refine ⟨?_, trivial⟩
        intro q hq h0
        rw [List.mem_singleton] at hq; subst hq; exact ⟨by decide, by decide⟩
  refine ⟨⟨by decide, fun j hj => by omega⟩, ⟨by decide, fun z => absurd rfl z⟩, ⟨by decide, by decide, by decide, by decide⟩, ⟨trivial, rfl, rfl, fun x hx => (List.not_mem_nil hx).elim⟩, hd, fun _ => ⟨by decide, (fun k hk => absurd hk (by decide +revert)), (fun a ha => absurd ha (by decide +revert)), fun q => (hd q).1.1⟩⟩
