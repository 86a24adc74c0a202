/-! THE TEXT: T f i, whole numbers by field and place; LAWS as branches.
T 0: 0 PLACES 1 ROADS 2 GHOSTS 3 GATES told 4 FOG 5, 6 LAMP 7 SEED; of a ROAD: T 1, T 2 its PLACES, T 3 HOURS, T 4 FIELD; of a GHOST: T 5 from, T 6 to, T 7 KIND, T 8 CARRIES, T 9 EVERY -/
abbrev sT : Type := Nat → Nat → Nat
def dLaw (q : Nat) : sLaw := match q with
  | 0 => [(none, [(1, 4)])]
  | 1 => [(none, [(0, 5)])]
  | _ => [(none, [(0, 99)])]
def wfL (L : sLaw) : Prop := ∀ br ∈ L, rW br.2 0 = some 1 ∧ match br.1 with
  | none => True
  | some uv => rW uv.1 0 = some 1 ∧ rW uv.2 0 = some 1
def vT (T : sT) (Lw : Nat → sLaw) : Prop := (T 0 0 ≤ 8 ∧ T 0 1 ≤ 12 ∧ T 0 2 ≤ 7 ∧ T 0 3 < 2 ^ 12 ∧ T 0 4 ≤ 100 ∧ T 0 5 ≤ 100 ∧ T 0 6 ≤ 100 ∧ T 0 7 ≤ 9999) ∧
  (∀ k, k < T 0 1 → T 1 k < T 0 0 ∧ T 2 k < T 0 0 ∧ T 1 k ≠ T 2 k ∧ 1 ≤ T 3 k ∧ T 3 k ≤ 9 ∧ T 4 k ≤ 1) ∧
  (∀ a, a < T 0 2 → T 5 a < T 0 0 ∧ T 6 a < T 0 0 ∧ T 5 a ≠ T 6 a ∧ T 7 a ≤ 9 ∧ T 8 a ≤ 99 ∧ 1 ≤ T 9 a ∧ T 9 a ≤ 9) ∧ ∀ q, wfL (Lw q)
/-- the text as the reference holds it, on its side v -/
def txM (μ : jM) (v : Nat) (T : sT) (Lw : Nat → sLaw) : Prop := (v < 2 ∧ μ.1 112 18 = nI v) ∧
  (μ.1 122 v = nI (T 0 0) ∧ μ.1 123 v = nI (T 0 1) ∧ μ.1 129 v = nI (T 0 2) ∧ μ.1 128 v = nI (T 0 3) ∧ μ.1 135 v = nI (T 0 4) ∧ μ.1 136 v = nI (T 0 5) ∧ μ.1 137 v = nI (T 0 6) ∧ μ.1 138 v = nI (T 0 7)) ∧
  (∀ k, k < T 0 1 → μ.1 124 (12 * v + k) = nI (T 1 k) ∧ μ.1 125 (12 * v + k) = nI (T 2 k) ∧ μ.1 126 (12 * v + k) = nI (T 3 k) ∧ μ.1 127 (12 * v + k) = nI (T 4 k)) ∧
  (∀ a, a < T 0 2 → μ.1 130 (7 * v + a) = nI (T 5 a) ∧ μ.1 131 (7 * v + a) = nI (T 6 a) ∧ μ.1 132 (7 * v + a) = nI (T 7 a) ∧ μ.1 133 (7 * v + a) = nI (T 8 a) ∧ μ.1 134 (7 * v + a) = nI (T 9 a)) ∧
  (∀ q, q < 3 → lawM μ (3 * v + q) (Lw q) (Lw q = dLaw q)) ∧ vT T Lw
/-- the cells that no method but read writes -/
def noTx (C F : List Nat) : Prop := (∀ c ∈ C, c < 122 ∨ 147 < c) ∧ 18 ∉ F
theorem brR_tx {C F : List Nat} {μ μ' : jM} (h : mOff C F μ μ') (hn : noTx C F) {b : Nat} {br : Option (sE × sE) × sE} (hb : brR μ b br) : brR μ' b br := by
  have hc : ∀ c, 122 ≤ c → c ≤ 147 → μ'.1 c = μ.1 c := fun c h1 h2 => h.c c (by omega) (fun z => by have := hn.1 c z; omega)
  unfold brR segOK at hb ⊢
  rw [hc 141 (by decide) (by decide), hc 142 (by decide) (by decide), hc 143 (by decide) (by decide), hc 144 (by decide) (by decide), hc 145 (by decide) (by decide), hc 146 (by decide) (by decide), hc 147 (by decide) (by decide)]
  exact hb
theorem txM_off {C F : List Nat} {μ μ' : jM} (h : mOff C F μ μ') (hn : noTx C F) {v : Nat} {T : sT} {Lw : Nat → sLaw} (ht : txM μ v T Lw) : txM μ' v T Lw := by
  have hc : ∀ c, 122 ≤ c → c ≤ 147 → μ'.1 c = μ.1 c := fun c h1 h2 => h.c c (by omega) (fun z => by have := hn.1 c z; omega)
  obtain ⟨h1, h2, h3, h4, h5, h6⟩ := ht
  refine ⟨by rw [h.f 18 hn.2]; exact h1, ?_, ?_, ?_, ?_, h6⟩
  · rw [hc 122 (by decide) (by decide), hc 123 (by decide) (by decide), hc 129 (by decide) (by decide), hc 128 (by decide) (by decide), hc 135 (by decide) (by decide), hc 136 (by decide) (by decide), hc 137 (by decide) (by decide), hc 138 (by decide) (by decide)]; exact h2
  · rw [hc 124 (by decide) (by decide), hc 125 (by decide) (by decide), hc 126 (by decide) (by decide), hc 127 (by decide) (by decide)]; exact h3
  · rw [hc 130 (by decide) (by decide), hc 131 (by decide) (by decide), hc 132 (by decide) (by decide), hc 133 (by decide) (by decide), hc 134 (by decide) (by decide)]; exact h4
  · intro q hq
    have := h5 q hq
    unfold lawM at this ⊢
    rw [hc 139 (by decide) (by decide), hc 140 (by decide) (by decide)]
    rcases this with h | ⟨h, f, h1, h2, h3, h3', h4⟩
    · exact Or.inl h
    · exact Or.inr ⟨h, f, h1, h2, h3, h3', fun j br hj => ⟨brR_tx (by assumption) hn (h4 j br hj).1, by unfold brG; rw [hc 142 (by decide) (by decide), hc 144 (by decide) (by decide), hc 145 (by decide) (by decide)]; exact (h4 j br hj).2⟩⟩
/-! a LAW looks at variables 0 .. 8 alone -/
theorem rE_congr {vr vr' : Nat → Int32} (h : ∀ i, i < 9 → vr i = vr' i) : ∀ (e : sE) (s : List Int32) (n m : Nat), rW e n = some m → rE vr e s = rE vr' e s := by
  intro e
  induction e with
  | nil => intro s n m _; rfl
  | cons q e ih =>
    obtain ⟨k, v⟩ := q
    intro s n m hw
    by_cases h0 : k = 0
    · subst h0
      simp only [rW, if_true] at hw
      split at hw
      next => simp only [rE, if_true]; exact ih _ _ _ hw
      next => cases hw
    · by_cases h1 : k = 1
      · subst h1
        simp only [rW, if_true, show ¬ (1 = 0) from by decide, if_false] at hw
        split at hw
        next hn =>
          simp only [rE, if_true, show ¬ (1 = 0) from by decide, if_false]
          rw [h _ hn.2.1]; exact ih _ _ _ hw
        next => cases hw
      · simp only [rW, h0, h1, if_false] at hw
        split at hw
        next =>
          simp only [rE, h0, h1, if_false]
          match s with
          | [] => rfl
          | [_] => rfl
          | b :: a :: s' =>
            simp only
            by_cases hz : k = 5 ∧ b = 0
            · simp [hz]
            · simp only [hz, if_false]; exact ih _ _ _ hw
        next => cases hw
theorem sEv_congr {vr vr' : Nat → Int32} (h : ∀ i, i < 9 → vr i = vr' i) {e : sE} (hw : rW e 0 = some 1) : sEv vr e = sEv vr' e := by unfold sEv; rw [rE_congr h e [] 0 1 hw]
theorem lE_congr {vr vr' : Nat → Int32} (h : ∀ i, i < 9 → vr i = vr' i) : ∀ (L : sLaw), wfL L → lE vr L = lE vr' L := by
  intro L
  induction L with
  | nil => intro _; rfl
  | cons br L ih =>
    obtain ⟨ts, w⟩ := br
    intro hw
    have h0 := hw _ List.mem_cons_self
    have ht := ih (fun b hb => hw b (List.mem_cons_of_mem _ hb))
    cases ts with
    | none => simp only [lE]; exact sEv_congr h h0.1
    | some uv =>
      obtain ⟨u, v⟩ := uv
      simp only [lE]
      rw [sEv_congr h h0.2.1, sEv_congr h h0.2.2, sEv_congr h h0.1, ht]
theorem lawV_congr {vr vr' : Nat → Int32} (h : ∀ i, i < 9 → vr i = vr' i) {L : sLaw} (hw : wfL L) {most : Int32} : lawV vr L most = lawV vr' L most := by unfold lawV; rw [lE_congr h L hw]
/-! the rows' words: S a row of 68 as the reference has it, lots the SEED in it, od the other keeper's RATE (below 0: none) -/
abbrev sR : Type := Nat → Int32
def sFg (T : sT) (S : sR) (lots : Int32) : Int32 := sFoggy (nI (T 0 4)) lots (S 67)
def sRt (S : sR) (od : Int32) (k : Nat) : Int32 := if od < 0 then S 65 else if k % 2 = 1 then od else S 65
def v9 (x0 x1 x2 x3 x4 x5 x6 x7 x8 : Int32) : Nat → Int32 := fun i => match i with
  | 0 => x0 | 1 => x1 | 2 => x2 | 3 => x3 | 4 => x4 | 5 => x5 | 6 => x6 | 7 => x7 | 8 => x8 | _ => 0
theorem upd9 (f : Nat → Int32) (x0 x1 x2 x3 x4 x5 x6 x7 x8 : Int32) (i : Nat) (hi : i < 9) : upd (upd (upd (upd (upd (upd (upd (upd (upd f 0 x0) 1 x1) 2 x2) 3 x3) 4 x4) 5 x5) 6 x6) 7 x7) 8 x8 i = v9 x0 x1 x2 x3 x4 x5 x6 x7 x8 i := by
  have h9 : i = 0 ∨ i = 1 ∨ i = 2 ∨ i = 3 ∨ i = 4 ∨ i = 5 ∨ i = 6 ∨ i = 7 ∨ i = 8 := by omega
  rcases h9 with rfl | rfl | rfl | rfl | rfl | rfl | rfl | rfl | rfl <;> simp [upd, v9]
def vrA (T : sT) (S : sR) (lots od : Int32) (a k : Nat) : Nat → Int32 := v9 (nI (T 7 a)) (nI (T 8 a)) (nI (T 9 a)) (sFg T S lots) (sRt S od k) (nI (T 3 k)) (S k) (nI k) (S 67)
def vrB (T : sT) (S : sR) (k : Nat) : Nat → Int32 := v9 0 0 0 0 0 (nI (T 3 k)) 0 (nI k) (S 67)
def sOwes (T : sT) (Lw : Nat → sLaw) (S : sR) (lots od : Int32) (a k : Nat) : Int32 := lawV (vrA T S lots od a k) (Lw 0) 99
def sFears (T : sT) (Lw : Nat → sLaw) (S : sR) (lots od : Int32) (a k : Nat) : Int32 := lawV (vrA T S lots od a k) (Lw 1) 99
def sBears (T : sT) (Lw : Nat → sLaw) (S : sR) (k : Nat) : Int32 := lawV (vrB T S k) (Lw 2) 999
abbrev sGt (S : sR) (k : Nat) : Prop := ((S 64 >>> (nI k &&& 31)) &&& 1) = 1
abbrev sDn (T : sT) (Lw : Nat → sLaw) (S : sR) (k : Nat) : Prop := sBears T Lw S k ≤ S k
