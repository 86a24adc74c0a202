/-! THE CLASS: the text as it holds it, a row, what a LAW says -/
def vsA : Nat → Bool := fun i => decide (i < 9)
def vsB : Nat → Bool := fun i => i == 5 || i == 7 || i == 8
def vsQ (q : Nat) : Nat → Bool := if q = 2 then vsB else vsA
/-- the mask of a LAW: of what changes while a text holds, what it looks at -/
def mkL (q : Nat) (L : sLaw) : Int64 := mkB (uL L 3 && vsQ q 3) (uL L 4 && vsQ q 4) (uL L 6 && vsQ q 6) (uL L 8 && vsQ q 8)
def most (q : Nat) : Int32 := if q = 2 then 999 else 99
/-- the place of LAW q in the Told at t -/
def lw (t q : Nat) : Nat := t + 9 + 4 * q
def txC (μ : jM) (t : Nat) (T : sT) (Lw : Nat → sLaw) : Prop := (t = 70 ∨ t = 91) ∧
  (μ.1 t 0 = nI (T 0 0) ∧ μ.1 t 1 = nI (T 0 1) ∧ μ.1 t 2 = nI (T 0 2) ∧ μ.1 t 7 = nI (T 0 3) ∧ μ.1 t 16 = nI (T 0 4) ∧ μ.1 t 17 = nI (T 0 5) ∧ μ.1 t 18 = nI (T 0 6) ∧ μ.1 t 19 = nI (T 0 7)) ∧
  (∀ k, k < T 0 1 → μ.1 (t + 1) k = nI (T 1 k) ∧ μ.1 (t + 2) k = nI (T 2 k) ∧ μ.1 (t + 3) k = nI (T 3 k) ∧ (μ.1 t 6 >>> (nI k &&& 31)) &&& 1 = nI (T 4 k)) ∧
  (∀ a, a < T 0 2 → μ.1 (t + 4) a = nI (T 5 a) ∧ μ.1 (t + 5) a = nI (T 6 a) ∧ μ.1 (t + 6) a = nI (T 7 a) ∧ μ.1 (t + 7) a = nI (T 8 a) ∧ μ.1 (t + 8) a = nI (T 9 a)) ∧
  (∀ q, q < 3 → lwC μ (lw t q) (vsQ q) (Lw q) ∧ μ.2.1 (lw t q) 0 = mkL q (Lw q) ∧ e9L (Lw q)) ∧ vT T Lw
/-- a row as the class holds it: S the reference's row, od the RATE on odd ROADS -/
def cRow (S : sR) (od lots th : Int32) : Nat → Int32 := fun j => if j = 0 then S 67 else if j = 1 then S 65 else if j = 2 then od else if j = 3 then S 66 else if j = 4 then S 64 else if j = 5 then lots else if j = 6 then th else if j < 71 then S (j - 7) else 0
def rtC (S : sR) (od : Int32) (k : Nat) : Int32 := if k % 2 = 1 then od else S 65
/-- the variables that the class gives a LAW -/
def vrC (T : sT) (S : sR) (fog od : Int32) (a k : Nat) : Nat → Int32 := v9 (nI (T 7 a)) (nI (T 8 a)) (nI (T 9 a)) fog (rtC S od k) (nI (T 3 k)) (S k) (nI k) (S 67)
def vrN (T : sT) (a k night fog rate wear : Nat) : Nat → Int32 := v9 (nI (T 7 a)) (nI (T 8 a)) (nI (T 9 a)) (nI fog) (nI rate) (nI (T 3 k)) (nI wear) (nI k) (nI night)
def lawN (T : sT) (Lw : Nat → sLaw) (q a k night fog rate wear : Nat) : Int32 := sHeld (most q) (lE (vrV (vsQ q) (vrN T a k night fog rate wear)) (Lw q))
/-- what the LAWS keep is so -/
def kcI (μ : jM) (t : Nat) (T : sT) (Lw : Nat → sLaw) : Prop := ∀ q, q < 3 → ∀ i, i < 84 → μ.2.1 (lw t q + 1) i = -1 ∨ ∃ n f r w, kyR n f r w ∧ μ.2.1 (lw t q + 1) i = lN (ky n f r w) &&& mkL q (Lw q) ∧ μ.1 (lw t q + 2) i = lawN T Lw q (i / 12) (i % 12) n f r w
/-- the night that is entered: its key -/
def nkI (μ : jM) (night fog : Nat) : Prop := μ.2.1 12 6 = lN (night * 2 ^ 32 + fog * 2 ^ 28) ∧ μ.1 12 1 = nI fog
theorem v9_off (x0 x1 x2 x3 x4 x5 x6 x7 x8 y3 y4 y6 y8 : Int32) (i : Nat) (h3 : i ≠ 3) (h4 : i ≠ 4) (h6 : i ≠ 6) (h8 : i ≠ 8) : v9 x0 x1 x2 x3 x4 x5 x6 x7 x8 i = v9 x0 x1 x2 y3 y4 x5 y6 x7 y8 i := by
  unfold v9
  split <;> first | rfl | (exfalso; omega)
theorem lawN_key {T : sT} {Lw : Nat → sLaw} {q a k n1 f1 r1 w1 n2 f2 r2 w2 : Nat} (h1 : kyR n1 f1 r1 w1) (h2 : kyR n2 f2 r2 w2) (h : lN (ky n1 f1 r1 w1) &&& mkL q (Lw q) = lN (ky n2 f2 r2 w2) &&& mkL q (Lw q)) : lawN T Lw q a k n1 f1 r1 w1 = lawN T Lw q a k n2 f2 r2 w2 := by
  obtain ⟨g3, g4, g6, g8⟩ := key_inj h1 h2 h
  unfold lawN
  rw [lE_uses (Lw q) (fun i hi => ?_)]
  unfold vrV
  by_cases hv : vsQ q i = true
  · rw [if_pos hv, if_pos hv]
    unfold vrN
    by_cases e3 : i = 3
    · subst e3; rw [g3 (by rw [hi, hv]; rfl)]; rfl
    · by_cases e4 : i = 4
      · subst e4; rw [g4 (by rw [hi, hv]; rfl)]; rfl
      · by_cases e6 : i = 6
        · subst e6; rw [g6 (by rw [hi, hv]; rfl)]; rfl
        · by_cases e8 : i = 8
          · subst e8; rw [g8 (by rw [hi, hv]; rfl)]; rfl
          · exact v9_off _ _ _ _ _ _ _ _ _ _ _ _ _ i e3 e4 e6 e8
  · rw [if_neg hv, if_neg hv]
