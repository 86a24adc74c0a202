/-! WAYS: what is left to a PLACE, as the one solution of Bellman's equations (prices are 1 or more) -/
def INF : Nat := 1000000
def thr (T : sT) (k p : Nat) : Option Nat := if T 1 k = p then some (T 2 k) else if T 2 k = p then some (T 1 k) else none
def isD (T : sT) (pr : Nat → Nat) (goal : Nat) (d : Nat → Nat) : Prop := d goal = 0 ∧ (∀ p, d p ≤ INF) ∧ (∀ k, k < T 0 1 → ∀ p o, thr T k p = some o → d p ≤ d o + pr k) ∧ ∀ p, p ≠ goal → d p < INF → ∃ k, k < T 0 1 ∧ ∃ o, thr T k p = some o ∧ d p = d o + pr k
theorem isD_le {T : sT} {pr : Nat → Nat} {goal : Nat} {d d' : Nat → Nat} (h : isD T pr goal d) (h' : isD T pr goal d') (hp : ∀ k, k < T 0 1 → 1 ≤ pr k) : ∀ p, d p ≤ d' p := by
  have key : ∀ n p, d' p ≤ n → d p ≤ d' p := by
    intro n
    induction n with
    | zero =>
      intro p hn
      by_cases hg : p = goal
      · rw [hg, h.1]; omega
      · obtain ⟨k, hk, o, -, h2⟩ := h'.2.2.2 p hg (by simp [INF]; omega)
        have := hp k hk
        omega
    | succ n ih =>
      intro p hn
      by_cases hg : p = goal
      · rw [hg, h.1]; omega
      · by_cases hi : d' p < INF
        · obtain ⟨k, hk, o, h1, h2⟩ := h'.2.2.2 p hg hi
          have h3 := hp k hk
          have h4 := ih o (by omega)
          have h5 := h.2.2.1 k hk p o h1
          omega
        · have := h.2.1 p; omega
  exact fun p => key _ p (Nat.le_refl _)
theorem isD_uniq {T : sT} {pr : Nat → Nat} {goal : Nat} {d d' : Nat → Nat} (h : isD T pr goal d) (h' : isD T pr goal d') (hp : ∀ k, k < T 0 1 → 1 ≤ pr k) : d = d' := by
  funext p
  exact Nat.le_antisymm (isD_le h h' hp p) (isD_le h' h hp p)
/-- a place's value set -/
def upN (f : Nat → Nat) (p x : Nat) : Nat → Nat := fun q => if q = p then x else f q
def sum8 (f : Nat → Nat) : Nat := f 0 + f 1 + f 2 + f 3 + f 4 + f 5 + f 6 + f 7
theorem sum8_lt {f : Nat → Nat} {p x : Nat} (hp : p < 8) (hx : x < f p) : sum8 (upN f p x) < sum8 f := by
  have h8 : p = 0 ∨ p = 1 ∨ p = 2 ∨ p = 3 ∨ p = 4 ∨ p = 5 ∨ p = 6 ∨ p = 7 := by omega
  rcases h8 with rfl | rfl | rfl | rfl | rfl | rfl | rfl | rfl <;> simp [sum8, upN] <;> omega
theorem thr_in {T : sT} {Lw : Nat → sLaw} (hv : vT T Lw) {k p o : Nat} (hk : k < T 0 1) (h : thr T k p = some o) : p < 8 ∧ o < 8 ∧ p ≠ o ∧ p < T 0 0 ∧ o < T 0 0 := by
  obtain ⟨h1, h2, h3, -⟩ := hv.2.1 k hk
  have h0 := hv.1.1
  unfold thr at h
  split at h
  · next e => cases h; omega
  · split at h
    · next e => cases h; omega
    · cases h
theorem isD_ex {T : sT} {Lw : Nat → sLaw} (hv : vT T Lw) (pr : Nat → Nat) (goal : Nat) (hp : ∀ k, k < T 0 1 → 1 ≤ pr k) : ∃ d, isD T pr goal d := by
  have key : ∀ n (f : Nat → Nat), sum8 f ≤ n → f goal = 0 → (∀ p, f p ≤ INF) → (∀ p, p ≠ goal → f p < INF → ∃ k, k < T 0 1 ∧ ∃ o, thr T k p = some o ∧ f o + pr k ≤ f p) → ∃ d, isD T pr goal d := by
    intro n
    induction n with
    | zero =>
      intro f hn hg hi ht
      by_cases hf : ∀ k, k < T 0 1 → ∀ p o, thr T k p = some o → f p ≤ f o + pr k
      · refine ⟨f, hg, hi, hf, fun p h1 h2 => ?_⟩
        obtain ⟨k, hk, o, h3, h4⟩ := ht p h1 h2
        exact ⟨k, hk, o, h3, Nat.le_antisymm (hf k hk p o h3) h4⟩
      · simp only [Classical.not_forall] at hf
        obtain ⟨k, hk, p, o, h1, h2⟩ := hf
        have := sum8_lt (f := f) (thr_in hv hk h1).1 (Nat.not_le.mp h2)
        omega
    | succ n ih =>
      intro f hn hg hi ht
      by_cases hf : ∀ k, k < T 0 1 → ∀ p o, thr T k p = some o → f p ≤ f o + pr k
      · refine ⟨f, hg, hi, hf, fun p h1 h2 => ?_⟩
        obtain ⟨k, hk, o, h3, h4⟩ := ht p h1 h2
        exact ⟨k, hk, o, h3, Nat.le_antisymm (hf k hk p o h3) h4⟩
      · simp only [Classical.not_forall] at hf
        obtain ⟨k, hk, p, o, h1, h2⟩ := hf
        have hlt := Nat.not_le.mp h2
        obtain ⟨hp8, ho8, hne, -⟩ := thr_in hv hk h1
        have hs := sum8_lt (f := f) hp8 hlt
        have hpg : p ≠ goal := fun z => by rw [z, hg] at hlt; omega
        refine ih (upN f p (f o + pr k)) (by omega) ?_ (fun q => ?_) (fun q h3 h4 => ?_)
        · simp only [upN]; rw [if_neg (fun z : goal = p => hpg z.symm)]; exact hg
        · by_cases hq : q = p
          · have := hi p; simp [upN, hq]; omega
          · simp [upN, hq]; exact hi q
        · by_cases hq : q = p
          · subst hq
            refine ⟨k, hk, o, h1, ?_⟩
            simp only [upN]; rw [if_neg (fun z : o = q => hne z.symm), if_pos trivial]; exact Nat.le_refl _
          · simp only [upN, hq, if_false] at h4 ⊢
            obtain ⟨k', hk', o', h5, h6⟩ := ht q h3 h4
            refine ⟨k', hk', o', h5, ?_⟩
            by_cases ho : o' = p
            · subst ho; simp; omega
            · simp [ho]; exact h6
  refine key _ (fun p => if p = goal then 0 else INF) (Nat.le_refl _) (by simp) (fun p => by by_cases h : p = goal <;> simp [h]) (fun p h1 h2 => ?_)
  simp [h1] at h2
noncomputable def sD (T : sT) (pr : Nat → Nat) (goal : Nat) : Nat → Nat := Classical.epsilon (fun d => isD T pr goal d)
theorem sD_is {T : sT} {Lw : Nat → sLaw} (hv : vT T Lw) {pr : Nat → Nat} {goal : Nat} (hp : ∀ k, k < T 0 1 → 1 ≤ pr k) : isD T pr goal (sD T pr goal) := Classical.epsilon_spec (isD_ex hv pr goal hp)
/-! how many places are nearer -/
def rk (d : Nat → Nat) (p : Nat) : Nat := ((List.range 8).filter (fun q => decide (d q < d p))).length
theorem filter_lt {α : Type} {P Q : α → Bool} : ∀ (L : List α) (x : α), (∀ y, P y = true → Q y = true) → x ∈ L → Q x = true → ¬ P x = true → (L.filter P).length < (L.filter Q).length := by
  intro L
  induction L with
  | nil => intro x _ hx; cases hx
  | cons y L ih =>
    intro x h hx hq hp
    have hle : (L.filter P).length ≤ (L.filter Q).length := by
      clear ih hx hq hp
      induction L with
      | nil => simp
      | cons z L ih =>
        by_cases hz : P z = true
        · simp [hz, h z hz]; exact ih
        · simp only [List.filter_cons, hz]
          by_cases hz2 : Q z = true
          · simp [hz2]; omega
          · simp [hz2]; exact ih
    rcases List.mem_cons.mp hx with rfl | hx
    · simp only [List.filter_cons, hp, hq]; simp; omega
    · have := ih x h hx hq hp
      by_cases hy : P y = true
      · simp [hy, h y hy]; exact this
      · simp only [List.filter_cons, hy]
        by_cases hy2 : Q y = true
        · simp [hy2]; omega
        · simp [hy2]; exact this
theorem rk_lt {d : Nat → Nat} {o p : Nat} (ho : o < 8) (h : d o < d p) : rk d o < rk d p := by
  refine filter_lt _ o (fun y hy => ?_) (List.mem_range.mpr ho) (by simp [h]) (by simp)
  simp at hy ⊢; omega
theorem rk_7 {d : Nat → Nat} {p : Nat} (hp : p < 8) : rk d p ≤ 7 := by
  have := filter_lt (P := fun q => decide (d q < d p)) (Q := fun _ => true) (List.range 8) p (fun _ _ => rfl) (List.mem_range.mpr hp) rfl (by simp)
  have h2 : ((List.range 8).filter (fun _ => true)).length = 8 := by decide
  unfold rk; omega
/-! taking shorter ways -/
def rlx (T : sT) (pr : Nat → Nat) (f : Nat → Nat) (k p : Nat) : Nat → Nat := match thr T k p with
  | some o => if f o + pr k < f p then upN f p (f o + pr k) else f
  | none => f
/-- sound: no nearer than it is, the goal at 0 -/
def snd8 (d f : Nat → Nat) (goal : Nat) : Prop := f goal = 0 ∧ (∀ p, f p ≤ INF) ∧ ∀ p, d p ≤ f p
/-- settled for places with n nearer ones at most -/
def stl (d f : Nat → Nat) (n : Nat) : Prop := ∀ p, p < 8 → rk d p ≤ n → f p ≤ d p
theorem rlx_le {T : sT} {pr f : Nat → Nat} {k p : Nat} : ∀ q, rlx T pr f k p q ≤ f q := by
  intro q
  unfold rlx
  cases thr T k p with
  | none => exact Nat.le_refl _
  | some o =>
    simp only
    by_cases h : f o + pr k < f p
    · rw [if_pos h]; unfold upN
      by_cases h2 : q = p
      · rw [if_pos h2, h2]; omega
      · rw [if_neg h2]; exact Nat.le_refl _
    · rw [if_neg h]; exact Nat.le_refl _
theorem rlx_at {T : sT} {pr f : Nat → Nat} {k p o : Nat} (h : thr T k p = some o) : rlx T pr f k p p ≤ f o + pr k := by
  unfold rlx; rw [h]; simp only
  split
  · simp [upN]
  · omega
theorem rlx_snd {T : sT} {pr d f : Nat → Nat} {goal k p : Nat} (hd : isD T pr goal d) (hk : k < T 0 1) (hp : 1 ≤ pr k) (h : snd8 d f goal) : snd8 d (rlx T pr f k p) goal := by
  obtain ⟨h1, h2, h3⟩ := h
  unfold rlx
  split
  · next o ho =>
    split
    · next hlt =>
      have hpg : p ≠ goal := fun z => by rw [z, h1] at hlt; omega
      refine ⟨?_, fun q => ?_, fun q => ?_⟩
      · simp only [upN]; rw [if_neg (fun z => hpg z.symm)]; exact h1
      · unfold upN; split
        · have := h2 p; omega
        · exact h2 q
      · unfold upN; split
        · next e => rw [e]; have := hd.2.2.1 k hk p o ho; have := h3 o; omega
        · exact h3 q
    · exact ⟨h1, h2, h3⟩
  · exact ⟨h1, h2, h3⟩
/-- what a settled place's next one gives -/
theorem stl_next {T : sT} {Lw : Nat → sLaw} (hv : vT T Lw) {pr d : Nat → Nat} {goal : Nat} (hd : isD T pr goal d) (hp1 : ∀ k, k < T 0 1 → 1 ≤ pr k) {f : Nat → Nat} {n : Nat} (hs : stl d f n) {g : Nat → Nat} (hg0 : g goal = 0) (hgI : ∀ p, g p ≤ INF) (hle : ∀ k, k < T 0 1 → ∀ p o, thr T k p = some o → g p ≤ f o + pr k) : stl d g (n + 1) := by
  intro p hp hr
  by_cases hg : p = goal
  · rw [hg, hg0]; omega
  · by_cases hi : d p < INF
    · obtain ⟨k, hk, o, h1, h2⟩ := hd.2.2.2 p hg hi
      have h3 := hp1 k hk
      have ho := (thr_in hv hk h1).2.1
      have h4 := rk_lt (p := p) ho (by omega : d o < d p)
      have h5 := hs o ho (by omega)
      have h6 := hle k hk p o h1
      omega
    · have := hgI p; omega
theorem stl_0 {T : sT} {pr d f : Nat → Nat} {goal : Nat} (hg8 : goal < 8) (hd : isD T pr goal d) (hp1 : ∀ k, k < T 0 1 → 1 ≤ pr k) (hf : f goal = 0) (hI : ∀ p, f p ≤ INF) : stl d f 0 := by
  intro p hp hr
  by_cases hg : p = goal
  · rw [hg, hf]; omega
  · by_cases hi : d p < INF
    · obtain ⟨k, hk, o, h1, h2⟩ := hd.2.2.2 p hg hi
      have h3 := hp1 k hk
      have h4 := rk_lt (d := d) (o := goal) (p := p) hg8 (by rw [hd.1]; omega)
      omega
    · have := hI p; omega
theorem stl_all {d f : Nat → Nat} {goal n : Nat} (hs : snd8 d f goal) (h : stl d f n) (hn : 7 ≤ n) : ∀ p, p < 8 → f p = d p := fun p hp => Nat.le_antisymm (h p hp (Nat.le_trans (rk_7 hp) hn)) (hs.2.2 p)
