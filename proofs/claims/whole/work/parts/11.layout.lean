/-! WHICH CELL IS WHICH: 0 GhostPike, 1 Tape, 3 Reader, 4 Tokens, 12 World, 17 + 5 g Ways, 52 now, 54 Past, 57 Forecast, 58 then, 63 Dreams, 64 its State, 70 and 91 the Tolds, 112 GhostPikeModel -/
def gC : jG := [(16, 9), (11, 2), (1, 2000), (9, 13), (12, 4), (0, 401), (0, 401), (3, 401), (3, 23), (3, 8), (3, 7), (0, 24), (15, 11), (4, 7), (0, 12), (0, 9), (0, 24), (14, 9), (0, 12), (0, 12), (0, 8), (0, 8), (14, 9), (0, 12), (0, 12), (0, 8), (0, 8), (14, 9), (0, 12), (0, 12), (0, 8), (0, 8), (14, 9), (0, 12), (0, 12), (0, 8), (0, 8), (14, 9), (0, 12), (0, 12), (0, 8), (0, 8), (14, 9), (0, 12), (0, 12), (0, 8), (0, 8), (14, 9), (0, 12), (0, 12), (0, 8), (0, 8), (10, 1), (0, 71), (8, 5), (0, 2840), (0, 213), (6, 9), (10, 1), (0, 71), (0, 16), (0, 16), (0, 7), (5, 10), (10, 1), (0, 71), (0, 20), (0, 20), (0, 20), (0, 12), (13, 20), (0, 12), (0, 12), (0, 12), (0, 7), (0, 7), (0, 7), (0, 7), (0, 7), (7, 6), (3, 84), (0, 84), (0, 400), (7, 6), (3, 84), (0, 84), (0, 400), (7, 6), (3, 84), (0, 84), (0, 400), (13, 20), (0, 12), (0, 12), (0, 12), (0, 7), (0, 7), (0, 7), (0, 7), (0, 7), (7, 6), (3, 84), (0, 84), (0, 400), (7, 6), (3, 84), (0, 84), (0, 400), (7, 6), (3, 84), (0, 84), (0, 400)]
def gM : jG := [(16, 9), (11, 2), (1, 2000), (9, 13), (12, 4), (0, 401), (0, 401), (3, 401), (3, 23), (3, 8), (3, 7), (0, 24), (15, 11), (4, 7), (0, 12), (0, 9), (0, 24), (14, 9), (0, 12), (0, 12), (0, 8), (0, 8), (14, 9), (0, 12), (0, 12), (0, 8), (0, 8), (14, 9), (0, 12), (0, 12), (0, 8), (0, 8), (14, 9), (0, 12), (0, 12), (0, 8), (0, 8), (14, 9), (0, 12), (0, 12), (0, 8), (0, 8), (14, 9), (0, 12), (0, 12), (0, 8), (0, 8), (14, 9), (0, 12), (0, 12), (0, 8), (0, 8), (10, 1), (0, 71), (8, 5), (0, 2840), (0, 213), (6, 9), (10, 1), (0, 71), (0, 16), (0, 16), (0, 7), (5, 10), (10, 1), (0, 71), (0, 20), (0, 20), (0, 20), (0, 12), (13, 20), (0, 12), (0, 12), (0, 12), (0, 7), (0, 7), (0, 7), (0, 7), (0, 7), (7, 6), (3, 84), (0, 84), (0, 400), (7, 6), (3, 84), (0, 84), (0, 400), (7, 6), (3, 84), (0, 84), (0, 400), (13, 20), (0, 12), (0, 12), (0, 12), (0, 7), (0, 7), (0, 7), (0, 7), (0, 7), (7, 6), (3, 84), (0, 84), (0, 400), (7, 6), (3, 84), (0, 84), (0, 400), (7, 6), (3, 84), (0, 84), (0, 400), (17, 80), (1, 2000), (1, 2000), (0, 403), (0, 403), (0, 403), (3, 403), (3, 23), (3, 15), (0, 15), (0, 2), (0, 2), (0, 24), (0, 24), (0, 24), (2, 24), (0, 2), (0, 2), (0, 14), (0, 14), (0, 14), (0, 14), (0, 14), (0, 2), (0, 2), (0, 2), (0, 2), (0, 6), (0, 6), (2, 260), (0, 260), (0, 260), (0, 260), (0, 260), (0, 840), (0, 840), (0, 64), (0, 9), (0, 400), (0, 68), (0, 68), (0, 8), (0, 12), (0, 12), (0, 8), (0, 2720), (0, 32), (0, 20), (0, 20), (2, 20), (2, 372), (0, 12), (0, 12), (2, 3), (0, 204)]
def gGG (G : jG) : Prop := ∀ (a : Nat) (sh : Nat × Nat), gC[a]? = some sh → G[a]? = some sh
def gMM (G : jG) : Prop := ∀ (a : Nat) (sh : Nat × Nat), gM[a]? = some sh → G[a]? = some sh
def gP (a f : Nat) : Option Nat := match a with
  | 0 => (match f with | 0 => some 1 | 1 => some 3 | 2 => some 12 | 3 => some 52 | 4 => some 54 | 5 => some 57 | 6 => some 63 | _ => none)
  | 1 => (match f with | 0 => some 2 | _ => none)
  | 3 => (match f with | 1 => some 4 | 2 => some 9 | 3 => some 10 | 4 => some 11 | _ => none)
  | 4 => (match f with | 0 => some 5 | 1 => some 6 | 2 => some 7 | 3 => some 8 | _ => none)
  | 12 => (match f with | 3 => some 13 | 8 => some 14 | 9 => some 15 | 10 => some 16 | _ => none)
  | 13 => (match f with | 0 => some 17 | 1 => some 22 | 2 => some 27 | 3 => some 32 | 4 => some 37 | 5 => some 42 | 6 => some 47 | _ => none)
  | 17 => (match f with | 2 => some 18 | 3 => some 19 | 4 => some 20 | 8 => some 21 | _ => none)
  | 22 => (match f with | 2 => some 23 | 3 => some 24 | 4 => some 25 | 8 => some 26 | _ => none)
  | 27 => (match f with | 2 => some 28 | 3 => some 29 | 4 => some 30 | 8 => some 31 | _ => none)
  | 32 => (match f with | 2 => some 33 | 3 => some 34 | 4 => some 35 | 8 => some 36 | _ => none)
  | 37 => (match f with | 2 => some 38 | 3 => some 39 | 4 => some 40 | 8 => some 41 | _ => none)
  | 42 => (match f with | 2 => some 43 | 3 => some 44 | 4 => some 45 | 8 => some 46 | _ => none)
  | 47 => (match f with | 2 => some 48 | 3 => some 49 | 4 => some 50 | 8 => some 51 | _ => none)
  | 52 => (match f with | 0 => some 53 | _ => none)
  | 54 => (match f with | 2 => some 55 | 3 => some 56 | _ => none)
  | 57 => (match f with | 3 => some 12 | 4 => some 52 | 5 => some 58 | 6 => some 60 | 7 => some 61 | 8 => some 62 | _ => none)
  | 58 => (match f with | 0 => some 59 | _ => none)
  | 63 => (match f with | 1 => some 12 | 2 => some 64 | 3 => some 66 | 4 => some 67 | 5 => some 68 | 9 => some 69 | _ => none)
  | 64 => (match f with | 0 => some 65 | _ => none)
  | 70 => (match f with | 3 => some 71 | 4 => some 72 | 5 => some 73 | 8 => some 74 | 9 => some 75 | 10 => some 76 | 11 => some 77 | 12 => some 78 | 13 => some 79 | 14 => some 83 | 15 => some 87 | _ => none)
  | 79 => (match f with | 1 => some 80 | 2 => some 81 | 4 => some 82 | _ => none)
  | 83 => (match f with | 1 => some 84 | 2 => some 85 | 4 => some 86 | _ => none)
  | 87 => (match f with | 1 => some 88 | 2 => some 89 | 4 => some 90 | _ => none)
  | 91 => (match f with | 3 => some 92 | 4 => some 93 | 5 => some 94 | 8 => some 95 | 9 => some 96 | 10 => some 97 | 11 => some 98 | 12 => some 99 | 13 => some 100 | 14 => some 104 | 15 => some 108 | _ => none)
  | 100 => (match f with | 1 => some 101 | 2 => some 102 | 4 => some 103 | _ => none)
  | 104 => (match f with | 1 => some 105 | 2 => some 106 | 4 => some 107 | _ => none)
  | 108 => (match f with | 1 => some 109 | 2 => some 110 | 4 => some 111 | _ => none)
  | _ => none
def gN (a f : Nat) : Option Nat := match a with
  | 112 => (match f with | 1 => some 113 | 3 => some 114 | 5 => some 115 | 6 => some 116 | 7 => some 117 | 8 => some 118 | 9 => some 119 | 21 => some 120 | 22 => some 121 | 23 => some 122 | 24 => some 123 | 25 => some 124 | 26 => some 125 | 27 => some 126 | 28 => some 127 | 29 => some 128 | 30 => some 129 | 31 => some 130 | 32 => some 131 | 33 => some 132 | 34 => some 133 | 35 => some 134 | 36 => some 135 | 37 => some 136 | 38 => some 137 | 39 => some 138 | 40 => some 139 | 41 => some 140 | 43 => some 141 | 44 => some 142 | 45 => some 143 | 46 => some 144 | 47 => some 145 | 49 => some 146 | 50 => some 147 | 51 => some 148 | 53 => some 149 | 54 => some 150 | 56 => some 151 | 57 => some 152 | 61 => some 153 | 62 => some 154 | 63 => some 155 | 64 => some 156 | 67 => some 157 | 70 => some 158 | 72 => some 159 | 73 => some 160 | 74 => some 161 | 75 => some 162 | 76 => some 163 | 77 => some 164 | 78 => some 165 | 79 => some 166 | _ => none)
  | _ => none
def gPP (μ : jM) : Prop := ∀ (a f x : Nat), gP a f = some x → μ.2.2 a f = some x
def gNN (μ : jM) : Prop := ∀ (a f x : Nat), gN a f = some x → μ.2.2 a f = some x
def tO (gl : jG) (pl : Nat → Nat → Option Nat) (G : jG) (μ : jM) (t : Nat) : Prop := (∀ (x : Nat) (sh : Nat × Nat), gl[x]? = some sh → G[t + x]? = some sh) ∧ ∀ (a f x : Nat), pl a f = some x → μ.2.2 (t + a) f = some (t + x)
def gTold : jG := [(13, 20), (0, 12), (0, 12), (0, 12), (0, 7), (0, 7), (0, 7), (0, 7), (0, 7), (7, 6), (3, 84), (0, 84), (0, 400), (7, 6), (3, 84), (0, 84), (0, 400), (7, 6), (3, 84), (0, 84), (0, 400)]
def pTold (a f : Nat) : Option Nat := match a with
  | 0 => (match f with | 3 => some 1 | 4 => some 2 | 5 => some 3 | 8 => some 4 | 9 => some 5 | 10 => some 6 | 11 => some 7 | 12 => some 8 | 13 => some 9 | 14 => some 13 | 15 => some 17 | _ => none)
  | 9 => (match f with | 1 => some 10 | 2 => some 11 | 4 => some 12 | _ => none)
  | 13 => (match f with | 1 => some 14 | 2 => some 15 | 4 => some 16 | _ => none)
  | 17 => (match f with | 1 => some 18 | 2 => some 19 | 4 => some 20 | _ => none)
  | _ => none
def gLaw : jG := [(7, 6), (3, 84), (0, 84), (0, 400)]
def pLaw (a f : Nat) : Option Nat := match a with
  | 0 => (match f with | 1 => some 1 | 2 => some 2 | 4 => some 3 | _ => none)
  | _ => none
def gWay : jG := [(14, 9), (0, 12), (0, 12), (0, 8), (0, 8)]
def pWay (a f : Nat) : Option Nat := match a with
  | 0 => (match f with | 2 => some 1 | 3 => some 2 | 4 => some 3 | 8 => some 4 | _ => none)
  | _ => none
def gState : jG := [(10, 1), (0, 71)]
def pState (a f : Nat) : Option Nat := match a with
  | 0 => (match f with | 0 => some 1 | _ => none)
  | _ => none
/-! some more rules -/
def jle : List Value → List Value → Prop
  | [], _ => True
  | v :: r, w :: s => (v = .null ∨ v = w) ∧ jle r s
  | _ :: _, [] => False
theorem jle_at : ∀ (ls' ls : List Value), jle ls' ls → ∀ (i : Nat) (v : Value), ls'[i]? = some v → v ≠ .null → ls[i]? = some v := by
  intro ls'
  induction ls' with
  | nil => intro ls _ i v h; simp at h
  | cons a r ih =>
    intro ls h i v hi hv
    cases ls with
    | nil => exact absurd h (by simp [jle])
    | cons b t =>
      obtain ⟨h1, h2⟩ := h
      cases i with
      | zero =>
        simp at hi
        subst hi
        rcases h1 with h1 | h1
        · exact absurd h1 hv
        · simp [h1]
      | succ i =>
        simp at hi ⊢
        exact ih t h2 i v hi hv
section JMore
variable {l : Launch} {M : jMt} {Z : jZ} {G : jG} {k n pc q : Nat} {ls st : List Value} {μ : jM}
theorem j_forget {ls' : List Value} (h : jle ls' ls) (K : J l M Z G k n pc ls' st μ) : J l M Z G k n pc ls st μ := by
  intro p e s m args below meth c D cA ad0 ad A b H locs sl ok ex hAD hcs hR hL
  exact K p e s m args below meth c D cA ad0 ad A b H locs sl ok ex hAD hcs hR ⟨hL.1, hL.2.1, fun i v hi hv => hL.2.2 i v (jle_at _ _ h i v hi hv) hv⟩
theorem vpK {i : Int32} {N : Nat} (h : ¬ (i < 0 ∨ N ≤ i.toNatClampNeg)) : vp_in i N := h
theorem j_iald' {a N : Nat} (j : Nat) {i : Int32} (hd : decode M.2.1 pc = .ok (.iaload, 1)) (hq : pc + 1 = q) (hG : G[a]? = some (0, N)) (hin : vp_in i N) (hj : i.toNatClampNeg = j) (K : J l M Z G k n q ls (.int (μ.1 a j) :: st) μ) : J l M Z G k n pc ls (.int i :: .ref a :: st) μ := by subst hj; exact j_iald hd hq hG hin K
theorem j_bald' {a N : Nat} (j : Nat) {i : Int32} (hd : decode M.2.1 pc = .ok (.baload, 1)) (hq : pc + 1 = q) (hG : G[a]? = some (1, N)) (hin : vp_in i N) (hj : i.toNatClampNeg = j) (K : J l M Z G k n q ls (.int (μ.1 a j) :: st) μ) : J l M Z G k n pc ls (.int i :: .ref a :: st) μ := by subst hj; exact j_bald hd hq hG hin K
theorem j_zald' {a N : Nat} (j : Nat) {i : Int32} (hd : decode M.2.1 pc = .ok (.baload, 1)) (hq : pc + 1 = q) (hG : G[a]? = some (2, N)) (hin : vp_in i N) (hj : i.toNatClampNeg = j) (K : J l M Z G k n q ls (.int (μ.1 a j) :: st) μ) : J l M Z G k n pc ls (.int i :: .ref a :: st) μ := by subst hj; exact j_zald hd hq hG hin K
theorem j_lald' {a N : Nat} (j : Nat) {i : Int32} (hd : decode M.2.1 pc = .ok (.laload, 1)) (hq : pc + 1 = q) (hG : G[a]? = some (3, N)) (hin : vp_in i N) (hj : i.toNatClampNeg = j) (K : J l M Z G k n q ls (.long (μ.2.1 a j) :: st) μ) : J l M Z G k n pc ls (.int i :: .ref a :: st) μ := by subst hj; exact j_lald hd hq hG hin K
theorem j_aald' {a N x : Nat} (j : Nat) {i : Int32} (hd : decode M.2.1 pc = .ok (.aaload, 1)) (hq : pc + 1 = q) (hG : G[a]? = some (4, N)) (hin : vp_in i N) (hj : i.toNatClampNeg = j) (hx : μ.2.2 a j = some x) (K : J l M Z G k n q ls (.ref x :: st) μ) : J l M Z G k n pc ls (.int i :: .ref a :: st) μ := by subst hj; exact j_aald hd hq hG hin hx K
theorem j_iast' {a N : Nat} (j : Nat) {i x : Int32} (hd : decode M.2.1 pc = .ok (.iastore, 1)) (hq : pc + 1 = q) (hG : G[a]? = some (0, N)) (hin : vp_in i N) (hj : i.toNatClampNeg = j) (K : J l M Z G k n q ls st (wI μ a j x)) : J l M Z G k n pc ls (.int x :: .int i :: .ref a :: st) μ := by subst hj; exact j_iast hd hq hG hin K
theorem j_bast' {a N : Nat} (j : Nat) {i x : Int32} (hd : decode M.2.1 pc = .ok (.bastore, 1)) (hq : pc + 1 = q) (hG : G[a]? = some (1, N)) (hin : vp_in i N) (hj : i.toNatClampNeg = j) (K : J l M Z G k n q ls st (wI μ a j (vp_nar .byte x))) : J l M Z G k n pc ls (.int x :: .int i :: .ref a :: st) μ := by subst hj; exact j_bast hd hq hG hin K
theorem j_zast' {a N : Nat} (j : Nat) {i x : Int32} (hd : decode M.2.1 pc = .ok (.bastore, 1)) (hq : pc + 1 = q) (hG : G[a]? = some (2, N)) (hin : vp_in i N) (hj : i.toNatClampNeg = j) (K : J l M Z G k n q ls st (wI μ a j (vp_nar .boolean x))) : J l M Z G k n pc ls (.int x :: .int i :: .ref a :: st) μ := by subst hj; exact j_zast hd hq hG hin K
theorem j_last' {a N : Nat} (j : Nat) {i : Int32} {x : Int64} (hd : decode M.2.1 pc = .ok (.lastore, 1)) (hq : pc + 1 = q) (hG : G[a]? = some (3, N)) (hin : vp_in i N) (hj : i.toNatClampNeg = j) (K : J l M Z G k n q ls st (wL μ a j x)) : J l M Z G k n pc ls (.long x :: .int i :: .ref a :: st) μ := by subst hj; exact j_last hd hq hG hin K
end JMore
/-! switches -/
theorem sw_1 {x c : Int32} {lo : Int} (h : x = c) (hc : ¬ c.toInt < lo) : ¬ x.toInt < lo := h ▸ hc
theorem sw_2 {x c : Int32} {hi : Int} (h : x = c) (hc : ¬ hi < c.toInt) : ¬ hi < x.toInt := h ▸ hc
theorem sw_3 {x c : Int32} {lo off : Int} {offs : Array Int} (h : x = c) (hc : offs[(c.toInt - lo).toNat]? = some off) : offs[(x.toInt - lo).toNat]? = some off := h ▸ hc
theorem sw_l {x c : Int32} {off d : Int} {ps : List (Int × Int)} (h : x = c) (hc : Op.lookupswitch.offset ps d c.toInt = off) : Op.lookupswitch.offset ps d x.toInt = off := h ▸ hc
def swN (x : Int32) : List Int → Prop
  | [] => True
  | a :: r => ¬ x = Int32.ofInt a ∧ swN x r
theorem swN_at {x : Int32} : ∀ (ks : List Int), swN x ks → ∀ a ∈ ks, ¬ x = Int32.ofInt a := by
  intro ks
  induction ks with
  | nil => intro _ a ha; cases ha
  | cons b r ih =>
    intro h a ha
    rcases List.mem_cons.mp ha with rfl | ha
    · exact h.1
    · exact ih h.2 a ha
theorem sw_o {x : Int32} {lo hi : Int} (ks : List Int) (hk : ks = (List.range (hi - lo + 1).toNat).map (fun j : Nat => lo + (j : Int))) (h : swN x ks) : x.toInt < lo ∨ hi < x.toInt := by
  by_cases h1 : x.toInt < lo
  · exact Or.inl h1
  · by_cases h2 : hi < x.toInt
    · exact Or.inr h2
    · refine absurd ?_ (swN_at ks h x.toInt ?_)
      · rw [Int32.ofInt_toInt]
      · rw [hk]
        refine List.mem_map.mpr ⟨(x.toInt - lo).toNat, List.mem_range.mpr (by omega), by omega⟩
