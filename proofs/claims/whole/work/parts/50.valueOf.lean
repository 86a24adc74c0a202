/-! THE CLASS: a LAW's works -/
def cwk (q : Nat × Nat) : Int32 := nI (8 * q.2 + q.1)
theorem cwk_and {q : Nat × Nat} (h1 : q.1 < 8) (h2 : q.2 < 2 ^ 20) : cwk q &&& 7 = nI q.1 := by
  unfold cwk
  rw [pk_andN (by omega) 3 (by decide)]
  congr 1; omega
theorem cwk_shr {q : Nat × Nat} (h1 : q.1 < 8) (h2 : q.2 < 2 ^ 20) : cwk q >>> (3 &&& 31) = nI q.2 := by
  unfold cwk
  rw [pk_shrN (by omega) _ 3 (by decide)]
  congr 1; omega
/-- works o .. hold this code -/
def wkR (f : Nat → Int32) (o : Nat) (c : List (Nat × Nat)) : Prop := ∀ (j : Nat) (q : Nat × Nat), c[j]? = some q → f (o + j) = cwk q ∧ q.1 < 8 ∧ q.2 < 2 ^ 20
theorem wkR_tl {f : Nat → Int32} {o : Nat} {q : Nat × Nat} {c : List (Nat × Nat)} (h : wkR f o (q :: c)) : (f o = cwk q ∧ q.1 < 8 ∧ q.2 < 2 ^ 20) ∧ wkR f (o + 1) c := by
  refine ⟨h 0 q rfl, fun j x hx => ?_⟩
  have := h (j + 1) x hx
  rw [show o + (j + 1) = o + 1 + j by omega] at this
  exact this
theorem wkR_app {f : Nat → Int32} {o : Nat} {c1 c2 : List (Nat × Nat)} (h : wkR f o (c1 ++ c2)) : wkR f o c1 ∧ wkR f (o + c1.length) c2 := by
  refine ⟨fun j q hj => h j q (by rw [List.getElem?_append_left (List.getElem?_eq_some_iff.mp hj).1]; exact hj), fun j q hj => ?_⟩
  have := h (c1.length + j) q (by rw [List.getElem?_append_right (by omega)]; simpa using hj)
  rw [show o + (c1.length + j) = o + c1.length + j by omega] at this
  exact this
/-- the class's code of an E: variables that a LAW doesn't have are 0 -/
def cE (vs : Nat → Bool) (e : sE) : List (Nat × Nat) := e.map fun q => if q.1 = 0 then (0, q.2.toNatClampNeg) else if q.1 = 1 then (if vs q.2.toNatClampNeg then (1, q.2.toNatClampNeg) else (0, 0)) else (q.1, 0)
def vrV (vs : Nat → Bool) (vr : Nat → Int32) : Nat → Int32 := fun i => if vs i then vr i else 0
/-- numbers in an E are 0 .. 9999 -/
def e9 (e : sE) : Prop := ∀ q ∈ e, q.1 = 0 → ¬ q.2 < 0 ∧ q.2.toNatClampNeg ≤ 9999
/-- the class's pile: from place 3 on -/
def stkC (f : Nat → Int32) : List Int32 → Prop
  | [] => True
  | x :: s => f (s.length + 3) = x ∧ stkC f s
theorem stkC_off {f : Nat → Int32} {i : Nat} {x : Int32} : ∀ (s : List Int32), s.length + 2 < i → stkC f s → stkC (upd f i x) s := by
  intro s
  induction s with
  | nil => intro _ _; trivial
  | cons y s ih =>
    intro h hp
    have hl : s.length + 1 + 2 < i := h
    exact ⟨by rw [upd_ne (by omega)]; exact hp.1, ih (by omega) hp.2⟩
theorem nI_of_nat {x : Int32} (h : ¬ x < 0) : nI x.toNatClampNeg = x := by
  obtain ⟨j, hj, rfl⟩ := nI_of h
  rw [nI_clamp hj]
/-- a work: the pile's top is where the class says that it may be -/
theorem vo_blk {l : Launch} {G : jG} {μ : jM} {φ : Int32 → jM → Prop} {x4 x7 : Int32} {T : Nat} {w : Nat} (hG : gGG G) (hP : gPP μ) (hw : tO gLaw pLaw G μ w) (hT : 2 ≤ T ∧ T ≤ 22) 
    (k0 : (x4 ≤ (x7 : Int32)) → φ 0 μ) 
    (o0 : (¬ (x4 ≤ (x7 : Int32))) → vp_in x7 400) 
    (o1 : (¬ (x4 ≤ (x7 : Int32))) → (((μ.1 (w + 3) (Int32.toNatClampNeg x7)) &&& 7) = (0 : Int32)) → vp_in ((nI T) + 1) 24) 
    (k1 : (¬ (x4 ≤ (x7 : Int32))) → (((μ.1 (w + 3) (Int32.toNatClampNeg x7)) &&& 7) = (0 : Int32)) → J l mX2_valueOf (jZ0 0 G (pI φ)) G 0 0 270 [.null, .ref 15, .ref 16, .ref (w + 3), .int x4, .int (nI 22), .int ((nI T) + 1), .int x7, .null] [] (wI μ 16 (Int32.toNatClampNeg ((nI T) + 1)) ((μ.1 (w + 3) (Int32.toNatClampNeg x7)) >>> (3 &&& 31)))) 
    (o2 : (¬ (x4 ≤ (x7 : Int32))) → (¬ ((μ.1 (w + 3) (Int32.toNatClampNeg x7)) &&& 7) = (0 : Int32)) → (((μ.1 (w + 3) (Int32.toNatClampNeg x7)) &&& 7) = (1 : Int32)) → vp_in ((μ.1 (w + 3) (Int32.toNatClampNeg x7)) >>> (3 &&& 31)) 9) 
    (o3 : (¬ (x4 ≤ (x7 : Int32))) → (¬ ((μ.1 (w + 3) (Int32.toNatClampNeg x7)) &&& 7) = (0 : Int32)) → (((μ.1 (w + 3) (Int32.toNatClampNeg x7)) &&& 7) = (1 : Int32)) → vp_in ((nI T) + 1) 24) 
    (k2 : (¬ (x4 ≤ (x7 : Int32))) → (¬ ((μ.1 (w + 3) (Int32.toNatClampNeg x7)) &&& 7) = (0 : Int32)) → (((μ.1 (w + 3) (Int32.toNatClampNeg x7)) &&& 7) = (1 : Int32)) → J l mX2_valueOf (jZ0 0 G (pI φ)) G 0 0 270 [.null, .ref 15, .ref 16, .ref (w + 3), .int x4, .int (nI 22), .int ((nI T) + 1), .int x7, .null] [] (wI μ 16 (Int32.toNatClampNeg ((nI T) + 1)) (μ.1 15 (Int32.toNatClampNeg ((μ.1 (w + 3) (Int32.toNatClampNeg x7)) >>> (3 &&& 31)))))) 
    (o4 : (¬ (x4 ≤ (x7 : Int32))) → (¬ ((μ.1 (w + 3) (Int32.toNatClampNeg x7)) &&& 7) = (0 : Int32)) → (¬ ((μ.1 (w + 3) (Int32.toNatClampNeg x7)) &&& 7) = (1 : Int32)) → (((μ.1 (w + 3) (Int32.toNatClampNeg x7)) &&& 7) = (2 : Int32)) → vp_in ((nI T) + (-1)) 24) 
    (o5 : (¬ (x4 ≤ (x7 : Int32))) → (¬ ((μ.1 (w + 3) (Int32.toNatClampNeg x7)) &&& 7) = (0 : Int32)) → (¬ ((μ.1 (w + 3) (Int32.toNatClampNeg x7)) &&& 7) = (1 : Int32)) → (((μ.1 (w + 3) (Int32.toNatClampNeg x7)) &&& 7) = (2 : Int32)) → vp_in (((nI T) + (-1)) + 1) 24) 
    (k3 : (¬ (x4 ≤ (x7 : Int32))) → (¬ ((μ.1 (w + 3) (Int32.toNatClampNeg x7)) &&& 7) = (0 : Int32)) → (¬ ((μ.1 (w + 3) (Int32.toNatClampNeg x7)) &&& 7) = (1 : Int32)) → (((μ.1 (w + 3) (Int32.toNatClampNeg x7)) &&& 7) = (2 : Int32)) → J l mX2_valueOf (jZ0 0 G (pI φ)) G 0 0 270 [.null, .ref 15, .ref 16, .ref (w + 3), .int x4, .int (nI 22), .int ((nI T) + (-1)), .int x7, .null] [] (wI μ 16 (Int32.toNatClampNeg ((nI T) + (-1))) ((μ.1 16 (Int32.toNatClampNeg ((nI T) + (-1)))) + (μ.1 16 (Int32.toNatClampNeg (((nI T) + (-1)) + 1)))))) 
    (o6 : (¬ (x4 ≤ (x7 : Int32))) → (¬ ((μ.1 (w + 3) (Int32.toNatClampNeg x7)) &&& 7) = (0 : Int32)) → (¬ ((μ.1 (w + 3) (Int32.toNatClampNeg x7)) &&& 7) = (1 : Int32)) → (¬ ((μ.1 (w + 3) (Int32.toNatClampNeg x7)) &&& 7) = (2 : Int32)) → (((μ.1 (w + 3) (Int32.toNatClampNeg x7)) &&& 7) = (3 : Int32)) → vp_in ((nI T) + (-1)) 24) 
    (o7 : (¬ (x4 ≤ (x7 : Int32))) → (¬ ((μ.1 (w + 3) (Int32.toNatClampNeg x7)) &&& 7) = (0 : Int32)) → (¬ ((μ.1 (w + 3) (Int32.toNatClampNeg x7)) &&& 7) = (1 : Int32)) → (¬ ((μ.1 (w + 3) (Int32.toNatClampNeg x7)) &&& 7) = (2 : Int32)) → (((μ.1 (w + 3) (Int32.toNatClampNeg x7)) &&& 7) = (3 : Int32)) → vp_in (((nI T) + (-1)) + 1) 24) 
    (k4 : (¬ (x4 ≤ (x7 : Int32))) → (¬ ((μ.1 (w + 3) (Int32.toNatClampNeg x7)) &&& 7) = (0 : Int32)) → (¬ ((μ.1 (w + 3) (Int32.toNatClampNeg x7)) &&& 7) = (1 : Int32)) → (¬ ((μ.1 (w + 3) (Int32.toNatClampNeg x7)) &&& 7) = (2 : Int32)) → (((μ.1 (w + 3) (Int32.toNatClampNeg x7)) &&& 7) = (3 : Int32)) → J l mX2_valueOf (jZ0 0 G (pI φ)) G 0 0 270 [.null, .ref 15, .ref 16, .ref (w + 3), .int x4, .int (nI 22), .int ((nI T) + (-1)), .int x7, .null] [] (wI μ 16 (Int32.toNatClampNeg ((nI T) + (-1))) ((μ.1 16 (Int32.toNatClampNeg ((nI T) + (-1)))) - (μ.1 16 (Int32.toNatClampNeg (((nI T) + (-1)) + 1)))))) 
    (o8 : (¬ (x4 ≤ (x7 : Int32))) → (¬ ((μ.1 (w + 3) (Int32.toNatClampNeg x7)) &&& 7) = (0 : Int32)) → (¬ ((μ.1 (w + 3) (Int32.toNatClampNeg x7)) &&& 7) = (1 : Int32)) → (¬ ((μ.1 (w + 3) (Int32.toNatClampNeg x7)) &&& 7) = (2 : Int32)) → (¬ ((μ.1 (w + 3) (Int32.toNatClampNeg x7)) &&& 7) = (3 : Int32)) → (((μ.1 (w + 3) (Int32.toNatClampNeg x7)) &&& 7) = (4 : Int32)) → vp_in ((nI T) + (-1)) 24) 
    (o9 : (¬ (x4 ≤ (x7 : Int32))) → (¬ ((μ.1 (w + 3) (Int32.toNatClampNeg x7)) &&& 7) = (0 : Int32)) → (¬ ((μ.1 (w + 3) (Int32.toNatClampNeg x7)) &&& 7) = (1 : Int32)) → (¬ ((μ.1 (w + 3) (Int32.toNatClampNeg x7)) &&& 7) = (2 : Int32)) → (¬ ((μ.1 (w + 3) (Int32.toNatClampNeg x7)) &&& 7) = (3 : Int32)) → (((μ.1 (w + 3) (Int32.toNatClampNeg x7)) &&& 7) = (4 : Int32)) → vp_in (((nI T) + (-1)) + 1) 24) 
    (k5 : (¬ (x4 ≤ (x7 : Int32))) → (¬ ((μ.1 (w + 3) (Int32.toNatClampNeg x7)) &&& 7) = (0 : Int32)) → (¬ ((μ.1 (w + 3) (Int32.toNatClampNeg x7)) &&& 7) = (1 : Int32)) → (¬ ((μ.1 (w + 3) (Int32.toNatClampNeg x7)) &&& 7) = (2 : Int32)) → (¬ ((μ.1 (w + 3) (Int32.toNatClampNeg x7)) &&& 7) = (3 : Int32)) → (((μ.1 (w + 3) (Int32.toNatClampNeg x7)) &&& 7) = (4 : Int32)) → J l mX2_valueOf (jZ0 0 G (pI φ)) G 0 0 270 [.null, .ref 15, .ref 16, .ref (w + 3), .int x4, .int (nI 22), .int ((nI T) + (-1)), .int x7, .null] [] (wI μ 16 (Int32.toNatClampNeg ((nI T) + (-1))) ((μ.1 16 (Int32.toNatClampNeg ((nI T) + (-1)))) * (μ.1 16 (Int32.toNatClampNeg (((nI T) + (-1)) + 1)))))) 
    (o10 : (¬ (x4 ≤ (x7 : Int32))) → (¬ ((μ.1 (w + 3) (Int32.toNatClampNeg x7)) &&& 7) = (0 : Int32)) → (¬ ((μ.1 (w + 3) (Int32.toNatClampNeg x7)) &&& 7) = (1 : Int32)) → (¬ ((μ.1 (w + 3) (Int32.toNatClampNeg x7)) &&& 7) = (2 : Int32)) → (¬ ((μ.1 (w + 3) (Int32.toNatClampNeg x7)) &&& 7) = (3 : Int32)) → (¬ ((μ.1 (w + 3) (Int32.toNatClampNeg x7)) &&& 7) = (4 : Int32)) → (((μ.1 (w + 3) (Int32.toNatClampNeg x7)) &&& 7) = (5 : Int32)) → vp_in (nI T) 24) 
    (o11 : (¬ (x4 ≤ (x7 : Int32))) → (¬ ((μ.1 (w + 3) (Int32.toNatClampNeg x7)) &&& 7) = (0 : Int32)) → (¬ ((μ.1 (w + 3) (Int32.toNatClampNeg x7)) &&& 7) = (1 : Int32)) → (¬ ((μ.1 (w + 3) (Int32.toNatClampNeg x7)) &&& 7) = (2 : Int32)) → (¬ ((μ.1 (w + 3) (Int32.toNatClampNeg x7)) &&& 7) = (3 : Int32)) → (¬ ((μ.1 (w + 3) (Int32.toNatClampNeg x7)) &&& 7) = (4 : Int32)) → (((μ.1 (w + 3) (Int32.toNatClampNeg x7)) &&& 7) = (5 : Int32)) → (¬ (μ.1 16 (Int32.toNatClampNeg (nI T))) = (0 : Int32)) → vp_in ((nI T) + (-1)) 24) 
    (o12 : (¬ (x4 ≤ (x7 : Int32))) → (¬ ((μ.1 (w + 3) (Int32.toNatClampNeg x7)) &&& 7) = (0 : Int32)) → (¬ ((μ.1 (w + 3) (Int32.toNatClampNeg x7)) &&& 7) = (1 : Int32)) → (¬ ((μ.1 (w + 3) (Int32.toNatClampNeg x7)) &&& 7) = (2 : Int32)) → (¬ ((μ.1 (w + 3) (Int32.toNatClampNeg x7)) &&& 7) = (3 : Int32)) → (¬ ((μ.1 (w + 3) (Int32.toNatClampNeg x7)) &&& 7) = (4 : Int32)) → (((μ.1 (w + 3) (Int32.toNatClampNeg x7)) &&& 7) = (5 : Int32)) → (¬ (μ.1 16 (Int32.toNatClampNeg (nI T))) = (0 : Int32)) → vp_in (((nI T) + (-1)) + 1) 24) 
    (o13 : (¬ (x4 ≤ (x7 : Int32))) → (¬ ((μ.1 (w + 3) (Int32.toNatClampNeg x7)) &&& 7) = (0 : Int32)) → (¬ ((μ.1 (w + 3) (Int32.toNatClampNeg x7)) &&& 7) = (1 : Int32)) → (¬ ((μ.1 (w + 3) (Int32.toNatClampNeg x7)) &&& 7) = (2 : Int32)) → (¬ ((μ.1 (w + 3) (Int32.toNatClampNeg x7)) &&& 7) = (3 : Int32)) → (¬ ((μ.1 (w + 3) (Int32.toNatClampNeg x7)) &&& 7) = (4 : Int32)) → (((μ.1 (w + 3) (Int32.toNatClampNeg x7)) &&& 7) = (5 : Int32)) → (¬ (μ.1 16 (Int32.toNatClampNeg (nI T))) = (0 : Int32)) → ¬ ((μ.1 16 (Int32.toNatClampNeg (((nI T) + (-1)) + 1))) : Int32) = 0) 
    (k6 : (¬ (x4 ≤ (x7 : Int32))) → (¬ ((μ.1 (w + 3) (Int32.toNatClampNeg x7)) &&& 7) = (0 : Int32)) → (¬ ((μ.1 (w + 3) (Int32.toNatClampNeg x7)) &&& 7) = (1 : Int32)) → (¬ ((μ.1 (w + 3) (Int32.toNatClampNeg x7)) &&& 7) = (2 : Int32)) → (¬ ((μ.1 (w + 3) (Int32.toNatClampNeg x7)) &&& 7) = (3 : Int32)) → (¬ ((μ.1 (w + 3) (Int32.toNatClampNeg x7)) &&& 7) = (4 : Int32)) → (((μ.1 (w + 3) (Int32.toNatClampNeg x7)) &&& 7) = (5 : Int32)) → (¬ (μ.1 16 (Int32.toNatClampNeg (nI T))) = (0 : Int32)) → J l mX2_valueOf (jZ0 0 G (pI φ)) G 0 0 270 [.null, .ref 15, .ref 16, .ref (w + 3), .int x4, .int (nI 22), .int ((nI T) + (-1)), .int x7, .null] [] (wI μ 16 (Int32.toNatClampNeg ((nI T) + (-1))) ((μ.1 16 (Int32.toNatClampNeg ((nI T) + (-1)))) / (μ.1 16 (Int32.toNatClampNeg (((nI T) + (-1)) + 1)))))) 
    (k7 : (¬ (x4 ≤ (x7 : Int32))) → (¬ ((μ.1 (w + 3) (Int32.toNatClampNeg x7)) &&& 7) = (0 : Int32)) → (¬ ((μ.1 (w + 3) (Int32.toNatClampNeg x7)) &&& 7) = (1 : Int32)) → (¬ ((μ.1 (w + 3) (Int32.toNatClampNeg x7)) &&& 7) = (2 : Int32)) → (¬ ((μ.1 (w + 3) (Int32.toNatClampNeg x7)) &&& 7) = (3 : Int32)) → (¬ ((μ.1 (w + 3) (Int32.toNatClampNeg x7)) &&& 7) = (4 : Int32)) → (((μ.1 (w + 3) (Int32.toNatClampNeg x7)) &&& 7) = (5 : Int32)) → ((μ.1 16 (Int32.toNatClampNeg (nI T))) = (0 : Int32)) → φ 0 μ) 
    (o14 : (¬ (x4 ≤ (x7 : Int32))) → (¬ ((μ.1 (w + 3) (Int32.toNatClampNeg x7)) &&& 7) = (0 : Int32)) → (¬ ((μ.1 (w + 3) (Int32.toNatClampNeg x7)) &&& 7) = (1 : Int32)) → (¬ ((μ.1 (w + 3) (Int32.toNatClampNeg x7)) &&& 7) = (2 : Int32)) → (¬ ((μ.1 (w + 3) (Int32.toNatClampNeg x7)) &&& 7) = (3 : Int32)) → (¬ ((μ.1 (w + 3) (Int32.toNatClampNeg x7)) &&& 7) = (4 : Int32)) → (¬ ((μ.1 (w + 3) (Int32.toNatClampNeg x7)) &&& 7) = (5 : Int32)) → (((μ.1 (w + 3) (Int32.toNatClampNeg x7)) &&& 7) = (6 : Int32)) → vp_in (((nI T) + (-2)) + 1) 24) 
    (o15 : (¬ (x4 ≤ (x7 : Int32))) → (¬ ((μ.1 (w + 3) (Int32.toNatClampNeg x7)) &&& 7) = (0 : Int32)) → (¬ ((μ.1 (w + 3) (Int32.toNatClampNeg x7)) &&& 7) = (1 : Int32)) → (¬ ((μ.1 (w + 3) (Int32.toNatClampNeg x7)) &&& 7) = (2 : Int32)) → (¬ ((μ.1 (w + 3) (Int32.toNatClampNeg x7)) &&& 7) = (3 : Int32)) → (¬ ((μ.1 (w + 3) (Int32.toNatClampNeg x7)) &&& 7) = (4 : Int32)) → (¬ ((μ.1 (w + 3) (Int32.toNatClampNeg x7)) &&& 7) = (5 : Int32)) → (((μ.1 (w + 3) (Int32.toNatClampNeg x7)) &&& 7) = (6 : Int32)) → vp_in (((nI T) + (-2)) + 2) 24) 
    (k8 : (¬ (x4 ≤ (x7 : Int32))) → (¬ ((μ.1 (w + 3) (Int32.toNatClampNeg x7)) &&& 7) = (0 : Int32)) → (¬ ((μ.1 (w + 3) (Int32.toNatClampNeg x7)) &&& 7) = (1 : Int32)) → (¬ ((μ.1 (w + 3) (Int32.toNatClampNeg x7)) &&& 7) = (2 : Int32)) → (¬ ((μ.1 (w + 3) (Int32.toNatClampNeg x7)) &&& 7) = (3 : Int32)) → (¬ ((μ.1 (w + 3) (Int32.toNatClampNeg x7)) &&& 7) = (4 : Int32)) → (¬ ((μ.1 (w + 3) (Int32.toNatClampNeg x7)) &&& 7) = (5 : Int32)) → (((μ.1 (w + 3) (Int32.toNatClampNeg x7)) &&& 7) = (6 : Int32)) → ((μ.1 16 (Int32.toNatClampNeg (((nI T) + (-2)) + 1))) < ((μ.1 16 (Int32.toNatClampNeg (((nI T) + (-2)) + 2))) : Int32)) → J l mX2_valueOf (jZ0 0 G (pI φ)) G 0 0 270 [.null, .ref 15, .ref 16, .ref (w + 3), .int x4, .int (nI 22), .int ((nI T) + (-2)), .int x7, .null] [] μ) 
    (k9 : (¬ (x4 ≤ (x7 : Int32))) → (¬ ((μ.1 (w + 3) (Int32.toNatClampNeg x7)) &&& 7) = (0 : Int32)) → (¬ ((μ.1 (w + 3) (Int32.toNatClampNeg x7)) &&& 7) = (1 : Int32)) → (¬ ((μ.1 (w + 3) (Int32.toNatClampNeg x7)) &&& 7) = (2 : Int32)) → (¬ ((μ.1 (w + 3) (Int32.toNatClampNeg x7)) &&& 7) = (3 : Int32)) → (¬ ((μ.1 (w + 3) (Int32.toNatClampNeg x7)) &&& 7) = (4 : Int32)) → (¬ ((μ.1 (w + 3) (Int32.toNatClampNeg x7)) &&& 7) = (5 : Int32)) → (((μ.1 (w + 3) (Int32.toNatClampNeg x7)) &&& 7) = (6 : Int32)) → (¬ ((μ.1 16 (Int32.toNatClampNeg (((nI T) + (-2)) + 1))) < ((μ.1 16 (Int32.toNatClampNeg (((nI T) + (-2)) + 2))) : Int32))) → (((μ.1 (w + 3) (Int32.toNatClampNeg x7)) >>> (3 &&& 31)) ≤ (x7 : Int32)) → J l mX2_valueOf (jZ0 0 G (pI φ)) G 0 0 270 [.null, .ref 15, .ref 16, .ref (w + 3), .int x4, .int (nI 22), .int ((nI T) + (-2)), .int x7, .null] [] μ) 
    (k10 : (¬ (x4 ≤ (x7 : Int32))) → (¬ ((μ.1 (w + 3) (Int32.toNatClampNeg x7)) &&& 7) = (0 : Int32)) → (¬ ((μ.1 (w + 3) (Int32.toNatClampNeg x7)) &&& 7) = (1 : Int32)) → (¬ ((μ.1 (w + 3) (Int32.toNatClampNeg x7)) &&& 7) = (2 : Int32)) → (¬ ((μ.1 (w + 3) (Int32.toNatClampNeg x7)) &&& 7) = (3 : Int32)) → (¬ ((μ.1 (w + 3) (Int32.toNatClampNeg x7)) &&& 7) = (4 : Int32)) → (¬ ((μ.1 (w + 3) (Int32.toNatClampNeg x7)) &&& 7) = (5 : Int32)) → (((μ.1 (w + 3) (Int32.toNatClampNeg x7)) &&& 7) = (6 : Int32)) → (¬ ((μ.1 16 (Int32.toNatClampNeg (((nI T) + (-2)) + 1))) < ((μ.1 16 (Int32.toNatClampNeg (((nI T) + (-2)) + 2))) : Int32))) → (¬ (((μ.1 (w + 3) (Int32.toNatClampNeg x7)) >>> (3 &&& 31)) ≤ (x7 : Int32))) → J l mX2_valueOf (jZ0 0 G (pI φ)) G 0 0 270 [.null, .ref 15, .ref 16, .ref (w + 3), .int x4, .int (nI 22), .int ((nI T) + (-2)), .int (((μ.1 (w + 3) (Int32.toNatClampNeg x7)) >>> (3 &&& 31)) - 1), .null] [] μ) 
    (o16 : (¬ (x4 ≤ (x7 : Int32))) → (¬ ((μ.1 (w + 3) (Int32.toNatClampNeg x7)) &&& 7) = (0 : Int32)) → (¬ ((μ.1 (w + 3) (Int32.toNatClampNeg x7)) &&& 7) = (1 : Int32)) → (¬ ((μ.1 (w + 3) (Int32.toNatClampNeg x7)) &&& 7) = (2 : Int32)) → (¬ ((μ.1 (w + 3) (Int32.toNatClampNeg x7)) &&& 7) = (3 : Int32)) → (¬ ((μ.1 (w + 3) (Int32.toNatClampNeg x7)) &&& 7) = (4 : Int32)) → (¬ ((μ.1 (w + 3) (Int32.toNatClampNeg x7)) &&& 7) = (5 : Int32)) → (¬ ((μ.1 (w + 3) (Int32.toNatClampNeg x7)) &&& 7) = (6 : Int32)) → vp_in (nI T) 24) 
    (k11 : (¬ (x4 ≤ (x7 : Int32))) → (¬ ((μ.1 (w + 3) (Int32.toNatClampNeg x7)) &&& 7) = (0 : Int32)) → (¬ ((μ.1 (w + 3) (Int32.toNatClampNeg x7)) &&& 7) = (1 : Int32)) → (¬ ((μ.1 (w + 3) (Int32.toNatClampNeg x7)) &&& 7) = (2 : Int32)) → (¬ ((μ.1 (w + 3) (Int32.toNatClampNeg x7)) &&& 7) = (3 : Int32)) → (¬ ((μ.1 (w + 3) (Int32.toNatClampNeg x7)) &&& 7) = (4 : Int32)) → (¬ ((μ.1 (w + 3) (Int32.toNatClampNeg x7)) &&& 7) = (5 : Int32)) → (¬ ((μ.1 (w + 3) (Int32.toNatClampNeg x7)) &&& 7) = (6 : Int32)) → φ (μ.1 16 (Int32.toNatClampNeg (nI T))) μ) :
    J l mX2_valueOf (jZ0 0 G (pI φ)) G 0 0 23 [.null, .ref 15, .ref 16, .ref (w + 3), .int x4, .int (nI 22), .int (nI T), .int x7, .null] [] μ := by
  have c1 : ¬ nI T < 2 := nI_nlt (b := 2) hT.1 (by have := hT.2; omega)
  have c2 : nI T ≤ nI 22 := nI_le hT.2 (by decide)
  have vq : ∀ x : Int32, vp_in x 9 → ¬ x < 0 ∧ ¬ (9 : Int32) ≤ x := by
    intro x h
    have h0 : ¬ x < 0 := fun z => h (Or.inl z)
    have h1 : ¬ 9 ≤ x.toNatClampNeg := fun z => h (Or.inr z)
    refine ⟨h0, ?_⟩
    obtain ⟨j, hj, rfl⟩ := nI_of h0
    rw [nI_clamp hj] at h1
    exact nI_ge (b := 9) (by omega) (by decide)
  exact b_X2_valueOf_23 hG hP hw k0 (fun _ h => absurd h c1) (fun h _ _ => o0 h) (fun h _ _ => o1 h) (fun h _ _ => k1 h) (fun h _ _ a b z => absurd z (vq _ (o2 h a b)).1) (fun h _ _ a b _ z => absurd z (vq _ (o2 h a b)).2) (fun h _ _ a b _ _ => o2 h a b) (fun h _ _ a b _ _ => b_X2_valueOf_142 hG hP hw (o3 h a b) (k2 h a b)) (fun h _ _ => o4 h) (fun h _ _ => o5 h) (fun h _ _ => k3 h) (fun h _ _ => o6 h) (fun h _ _ => o7 h) (fun h _ _ => k4 h) (fun h _ _ => o8 h) (fun h _ _ => o9 h) (fun h _ _ => k5 h) (fun h _ _ => o10 h) (fun h _ _ => o11 h) (fun h _ _ => o12 h) (fun h _ _ => o13 h) (fun h _ _ => k6 h) (fun h _ _ => k7 h) (fun h _ _ => o14 h) (fun h _ _ => o15 h) (fun h _ _ => k8 h) (fun h _ _ => k9 h) (fun h _ _ => k10 h) (fun h _ _ => o16 h) (fun h _ _ => k11 h) (fun _ _ z => absurd c2 z)
section ValueOf
variable {l : Launch} {G : jG} {φ : Int32 → jM → Prop} {w : Nat}
theorem vo_push (hG : gGG G) {μ : jM} (hP : gPP μ) (hw : tO gLaw pLaw G μ w) {N o t n : Nat} (hN : N ≤ 400) (ho : o < N) (hc : μ.1 (w + 3) o = cwk (0, n)) (hn : n < 2 ^ 20) (ht : 2 ≤ t ∧ t ≤ 22) (K : J l mX2_valueOf (jZ0 0 G (pI φ)) G 0 0 23 [.null, .ref 15, .ref 16, .ref (w + 3), .int (nI N), .int (nI 22), .int (nI (t + 1)), .int (nI (o + 1)), .null] [] (wI μ 16 (t + 1) (nI n))) :
    J l mX2_valueOf (jZ0 0 G (pI φ)) G 0 0 23 [.null, .ref 15, .ref 16, .ref (w + 3), .int (nI N), .int (nI 22), .int (nI t), .int (nI o), .null] [] μ := by
  have hcl : (nI o).toNatClampNeg = o := nI_clamp (by omega)
  have hlt : ¬ (nI N ≤ nI o) := nI_ge ho (by omega)
  have h7 : μ.1 (w + 3) (nI o).toNatClampNeg &&& 7 = 0 := by rw [hcl, hc]; exact cwk_and (q := (0, n)) (show 0 < 8 by decide) hn
  have h3 : μ.1 (w + 3) (nI o).toNatClampNeg >>> (3 &&& 31) = nI n := by rw [hcl, hc]; exact cwk_shr (q := (0, n)) (show 0 < 8 by decide) hn
  refine vo_blk hG hP hw ht (fun h => absurd h hlt) (fun _ => vp_in_nI (by omega) (by decide)) (fun _ _ => ?_) (fun _ _ => ?_) ?_ ?_ ?_ ?_ ?_ ?_ ?_ ?_ ?_ ?_ ?_ ?_ ?_ ?_ ?_ ?_ ?_ ?_ ?_ ?_ ?_ ?_ ?_ ?_ ?_
  · rw [nI_inc]; exact vp_in_nI (by omega) (by decide)
  · rw [nI_inc, nI_clamp (by omega), h3]
    refine b_X2_valueOf_270 hG hP hw ?_
    rw [nI_inc]; exact K
  all_goals (intro _ h; exact absurd h7 h)
theorem vo_load (hG : gGG G) {μ : jM} (hP : gPP μ) (hw : tO gLaw pLaw G μ w) {N o t n : Nat} (hN : N ≤ 400) (ho : o < N) (hc : μ.1 (w + 3) o = cwk (1, n)) (hn : n < 9) (ht : 2 ≤ t ∧ t ≤ 22) (K : J l mX2_valueOf (jZ0 0 G (pI φ)) G 0 0 23 [.null, .ref 15, .ref 16, .ref (w + 3), .int (nI N), .int (nI 22), .int (nI (t + 1)), .int (nI (o + 1)), .null] [] (wI μ 16 (t + 1) (μ.1 15 n))) :
    J l mX2_valueOf (jZ0 0 G (pI φ)) G 0 0 23 [.null, .ref 15, .ref 16, .ref (w + 3), .int (nI N), .int (nI 22), .int (nI t), .int (nI o), .null] [] μ := by
  have hcl : (nI o).toNatClampNeg = o := nI_clamp (by omega)
  have hlt : ¬ (nI N ≤ nI o) := nI_ge ho (by omega)
  have h7 : μ.1 (w + 3) (nI o).toNatClampNeg &&& 7 = 1 := by rw [hcl, hc]; exact cwk_and (q := (1, n)) (show 1 < 8 by decide) (by show n < _; omega)
  have h3 : μ.1 (w + 3) (nI o).toNatClampNeg >>> (3 &&& 31) = nI n := by rw [hcl, hc]; exact cwk_shr (q := (1, n)) (show 1 < 8 by decide) (by show n < _; omega)
  have n0 : ¬ (1 : Int32) = 0 := by decide
  refine vo_blk hG hP hw ht (fun h => absurd h hlt) (fun _ => vp_in_nI (by omega) (by decide)) (fun _ h => absurd (h7.symm.trans h) n0) (fun _ h => absurd (h7.symm.trans h) n0) (fun _ _ _ => ?_) (fun _ _ _ => ?_) (fun _ _ _ => ?_) ?_ ?_ ?_ ?_ ?_ ?_ ?_ ?_ ?_ ?_ ?_ ?_ ?_ ?_ ?_ ?_ ?_ ?_ ?_ ?_ ?_ ?_
  · rw [h3]; exact vp_in_nI hn (by decide)
  · rw [nI_inc]; exact vp_in_nI (by omega) (by decide)
  · rw [nI_inc, nI_clamp (by omega), h3, nI_clamp (by omega)]
    refine b_X2_valueOf_270 hG hP hw ?_
    rw [nI_inc]; exact K
  all_goals (intro _ _ h; exact absurd h7 h)
/-- + - * / of the two upper ones -/
theorem vo_op (hG : gGG G) {μ : jM} (hP : gPP μ) (hw : tO gLaw pLaw G μ w) {N o t k : Nat} {a b : Int32} (hN : N ≤ 400) (ho : o < N) (hk : 2 ≤ k ∧ k ≤ 5) (hc : μ.1 (w + 3) o = cwk (k, 0)) (ht : t + 2 ≤ 22) (ha : μ.1 16 (t + 1) = a) (hb : μ.1 16 (t + 2) = b)
    (K0 : k = 5 ∧ b = 0 → φ 0 μ) (K : ¬ (k = 5 ∧ b = 0) → J l mX2_valueOf (jZ0 0 G (pI φ)) G 0 0 23 [.null, .ref 15, .ref 16, .ref (w + 3), .int (nI N), .int (nI 22), .int (nI (t + 1)), .int (nI (o + 1)), .null] [] (wI μ 16 (t + 1) (rA k a b))) :
    J l mX2_valueOf (jZ0 0 G (pI φ)) G 0 0 23 [.null, .ref 15, .ref 16, .ref (w + 3), .int (nI N), .int (nI 22), .int (nI (t + 2)), .int (nI o), .null] [] μ := by
  have hcl : (nI o).toNatClampNeg = o := nI_clamp (by omega)
  have hlt : ¬ (nI N ≤ nI o) := nI_ge ho (by omega)
  have h7 : μ.1 (w + 3) (nI o).toNatClampNeg &&& 7 = nI k := by rw [hcl, hc]; exact cwk_and (q := (k, 0)) (by show k < 8; omega) (show 0 < 2 ^ 20 by decide)
  have e1 : nI (t + 2) + (-1) = nI (t + 1) := nI_dec (t + 1)
  have c1 : (nI (t + 1)).toNatClampNeg = t + 1 := nI_clamp (by omega)
  have c2 : (nI (t + 2)).toNatClampNeg = t + 2 := nI_clamp (by omega)
  have e2 : nI (t + 1) + 1 = nI (t + 2) := nI_inc _
  have v1 : vp_in (nI (t + 1)) 24 := vp_in_nI (by omega) (by decide)
  have v2 : vp_in (nI (t + 2)) 24 := vp_in_nI (by omega) (by decide)
  have ne : ∀ j, j ≠ k → j < 8 → ¬ μ.1 (w + 3) (nI o).toNatClampNeg &&& 7 = nI j := fun j hj h8 z => hj ((nI_eq (by omega) (by omega)).mp (z.symm.trans h7))
  have fin : ∀ x, x = rA k a b → ¬ (k = 5 ∧ b = 0) → J l mX2_valueOf (jZ0 0 G (pI φ)) G 0 0 270 [.null, .ref 15, .ref 16, .ref (w + 3), .int (nI N), .int (nI 22), .int (nI (t + 1)), .int (nI o), .null] [] (wI μ 16 (t + 1) x) := by
    rintro x rfl h
    refine b_X2_valueOf_270 (μ := wI μ 16 (t + 1) (rA k a b)) hG hP hw ?_
    rw [nI_inc]; exact K h
  have hkk : k = 2 ∨ k = 3 ∨ k = 4 ∨ k = 5 := by omega
  refine vo_blk hG hP hw ⟨by omega, ht⟩ (fun h => absurd h hlt) (fun _ => vp_in_nI (by omega) (by decide)) (fun _ h => absurd h (ne 0 (by omega) (by decide))) (fun _ h => absurd h (ne 0 (by omega) (by decide))) (fun _ _ h => absurd h (ne 1 (by omega) (by decide))) (fun _ _ h => absurd h (ne 1 (by omega) (by decide))) (fun _ _ h => absurd h (ne 1 (by omega) (by decide)))
    (fun _ _ _ _ => by rw [e1]; exact v1) (fun _ _ _ _ => by rw [e1, e2]; exact v2) (fun _ _ _ h => ?_) (fun _ _ _ _ _ => by rw [e1]; exact v1) (fun _ _ _ _ _ => by rw [e1, e2]; exact v2) (fun _ _ _ _ h => ?_) (fun _ _ _ _ _ _ => by rw [e1]; exact v1) (fun _ _ _ _ _ _ => by rw [e1, e2]; exact v2) (fun _ _ _ _ _ h => ?_)
    (fun _ _ _ _ _ _ _ => v2) (fun _ _ _ _ _ _ _ _ => by rw [e1]; exact v1) (fun _ _ _ _ _ _ _ _ => by rw [e1, e2]; exact v2) (fun _ _ _ _ _ _ h h0 => ?_) (fun _ _ _ _ _ _ h h0 => ?_) (fun _ _ _ _ _ _ h h0 => ?_) ?_ ?_ ?_ ?_ ?_ ?_ ?_
  · have e : k = 2 := (nI_eq (b := 2) (by omega) (by omega)).mp (h7.symm.trans h)
    rw [e1, e2, c1, c2, ha, hb]; exact fin _ (by rw [e]; rfl) (by omega)
  · have e : k = 3 := (nI_eq (b := 3) (by omega) (by omega)).mp (h7.symm.trans h)
    rw [e1, e2, c1, c2, ha, hb]; exact fin _ (by rw [e]; rfl) (by omega)
  · have e : k = 4 := (nI_eq (b := 4) (by omega) (by omega)).mp (h7.symm.trans h)
    rw [e1, e2, c1, c2, ha, hb]; exact fin _ (by rw [e]; rfl) (by omega)
  · rw [c2, hb] at h0; rw [e1, e2, c2, hb]; exact h0
  · have e : k = 5 := (nI_eq (b := 5) (by omega) (by omega)).mp (h7.symm.trans h)
    rw [c2, hb] at h0
    rw [e1, e2, c1, c2, ha, hb]; exact fin _ (by rw [e]; rfl) (fun z => h0 z.2)
  · have e : k = 5 := (nI_eq (b := 5) (by omega) (by omega)).mp (h7.symm.trans h)
    rw [c2, hb] at h0
    exact K0 ⟨e, h0⟩
  all_goals
    intro _ _ _ h2 h3 h4 h5
    exfalso
    rcases hkk with rfl | rfl | rfl | rfl
    · exact h2 h7
    · exact h3 h7
    · exact h4 h7
    · exact h5 h7
theorem vo_less (hG : gGG G) {μ : jM} (hP : gPP μ) (hw : tO gLaw pLaw G μ w) {N o g : Nat} {a b : Int32} (hN : N ≤ 400) (ho : o < N) (hg : o < g ∧ g ≤ N) (hc : μ.1 (w + 3) o = cwk (6, g)) (ha : μ.1 16 3 = a) (hb : μ.1 16 4 = b)
    (K1 : a < b → J l mX2_valueOf (jZ0 0 G (pI φ)) G 0 0 23 [.null, .ref 15, .ref 16, .ref (w + 3), .int (nI N), .int (nI 22), .int (nI 2), .int (nI (o + 1)), .null] [] μ) (K2 : ¬ a < b → J l mX2_valueOf (jZ0 0 G (pI φ)) G 0 0 23 [.null, .ref 15, .ref 16, .ref (w + 3), .int (nI N), .int (nI 22), .int (nI 2), .int (nI g), .null] [] μ) :
    J l mX2_valueOf (jZ0 0 G (pI φ)) G 0 0 23 [.null, .ref 15, .ref 16, .ref (w + 3), .int (nI N), .int (nI 22), .int (nI 4), .int (nI o), .null] [] μ := by
  have hcl : (nI o).toNatClampNeg = o := nI_clamp (by omega)
  have hlt : ¬ (nI N ≤ nI o) := nI_ge ho (by omega)
  have h7 : μ.1 (w + 3) (nI o).toNatClampNeg &&& 7 = nI 6 := by rw [hcl, hc]; exact cwk_and (q := (6, g)) (show 6 < 8 by decide) (by show g < _; omega)
  have h3 : μ.1 (w + 3) (nI o).toNatClampNeg >>> (3 &&& 31) = nI g := by rw [hcl, hc]; exact cwk_shr (q := (6, g)) (show 6 < 8 by decide) (by show g < _; omega)
  have ne : ∀ j, j ≠ 6 → j < 8 → ¬ μ.1 (w + 3) (nI o).toNatClampNeg &&& 7 = nI j := fun j hj h8 z => hj ((nI_eq (by omega) (by omega)).mp (z.symm.trans h7))
  have q0 : nI 4 + (-2) = nI 2 := by decide
  have q1 : nI 2 + 1 = nI 3 := by decide
  have q2 : nI 2 + 2 = nI 4 := by decide
  have c1 : (nI 3).toNatClampNeg = 3 := by decide
  have c2 : (nI 4).toNatClampNeg = 4 := by decide
  have gg : nI g - 1 + 1 = nI g := by
    obtain ⟨g', rfl⟩ : ∃ g', g = g' + 1 := ⟨g - 1, by omega⟩
    rw [nI_pred, nI_inc]
  refine vo_blk hG hP hw ⟨by decide, by decide⟩ (fun h => absurd h hlt) (fun _ => vp_in_nI (by omega) (by decide)) (fun _ h => absurd h (ne 0 (by decide) (by decide))) (fun _ h => absurd h (ne 0 (by decide) (by decide))) (fun _ _ h => absurd h (ne 1 (by decide) (by decide))) (fun _ _ h => absurd h (ne 1 (by decide) (by decide))) (fun _ _ h => absurd h (ne 1 (by decide) (by decide)))
    (fun _ _ _ h => absurd h (ne 2 (by decide) (by decide))) (fun _ _ _ h => absurd h (ne 2 (by decide) (by decide))) (fun _ _ _ h => absurd h (ne 2 (by decide) (by decide))) (fun _ _ _ _ h => absurd h (ne 3 (by decide) (by decide))) (fun _ _ _ _ h => absurd h (ne 3 (by decide) (by decide))) (fun _ _ _ _ h => absurd h (ne 3 (by decide) (by decide))) (fun _ _ _ _ _ h => absurd h (ne 4 (by decide) (by decide))) (fun _ _ _ _ _ h => absurd h (ne 4 (by decide) (by decide))) (fun _ _ _ _ _ h => absurd h (ne 4 (by decide) (by decide)))
    (fun _ _ _ _ _ _ h => absurd h (ne 5 (by decide) (by decide))) (fun _ _ _ _ _ _ h => absurd h (ne 5 (by decide) (by decide))) (fun _ _ _ _ _ _ h => absurd h (ne 5 (by decide) (by decide))) (fun _ _ _ _ _ _ h => absurd h (ne 5 (by decide) (by decide))) (fun _ _ _ _ _ _ h => absurd h (ne 5 (by decide) (by decide))) (fun _ _ _ _ _ _ h => absurd h (ne 5 (by decide) (by decide)))
    (fun _ _ _ _ _ _ _ _ => by rw [q0, q1]; exact vpK (by decide)) (fun _ _ _ _ _ _ _ _ => by rw [q0, q2]; exact vpK (by decide)) (fun _ _ _ _ _ _ _ _ h => ?_) (fun _ _ _ _ _ _ _ _ _ hz => absurd hz (by rw [h3]; exact nI_ge hg.1 (by omega))) (fun _ _ _ _ _ _ _ _ h _ => ?_) (fun _ _ _ _ _ _ _ h => absurd h7 h) (fun _ _ _ _ _ _ _ h => absurd h7 h)
  · rw [q0, q1, q2, c1, c2, ha, hb] at h
    rw [q0]
    refine b_X2_valueOf_270 hG hP hw ?_
    rw [nI_inc]; exact K1 h
  · rw [q0, q1, q2, c1, c2, ha, hb] at h
    rw [q0, h3]
    refine b_X2_valueOf_270 hG hP hw ?_
    rw [gg]; exact K2 h
theorem vo_answer (hG : gGG G) {μ : jM} (hP : gPP μ) (hw : tO gLaw pLaw G μ w) {N o : Nat} {a : Int32} (hN : N ≤ 400) (ho : o < N) (hc : μ.1 (w + 3) o = cwk (7, 0)) (ha : μ.1 16 3 = a) (K : φ a μ) :
    J l mX2_valueOf (jZ0 0 G (pI φ)) G 0 0 23 [.null, .ref 15, .ref 16, .ref (w + 3), .int (nI N), .int (nI 22), .int (nI 3), .int (nI o), .null] [] μ := by
  have hcl : (nI o).toNatClampNeg = o := nI_clamp (by omega)
  have hlt : ¬ (nI N ≤ nI o) := nI_ge ho (by omega)
  have h7 : μ.1 (w + 3) (nI o).toNatClampNeg &&& 7 = nI 7 := by rw [hcl, hc]; exact cwk_and (q := (7, 0)) (by decide) (by decide)
  have ne : ∀ j, j ≠ 7 → j < 8 → ¬ μ.1 (w + 3) (nI o).toNatClampNeg &&& 7 = nI j := fun j hj h8 z => hj ((nI_eq (by omega) (by omega)).mp (z.symm.trans h7))
  have c1 : (nI 3).toNatClampNeg = 3 := by decide
  refine vo_blk hG hP hw ⟨by decide, by decide⟩ (fun h => absurd h hlt) (fun _ => vp_in_nI (by omega) (by decide)) (fun _ h => absurd h (ne 0 (by decide) (by decide))) (fun _ h => absurd h (ne 0 (by decide) (by decide))) (fun _ _ h => absurd h (ne 1 (by decide) (by decide))) (fun _ _ h => absurd h (ne 1 (by decide) (by decide))) (fun _ _ h => absurd h (ne 1 (by decide) (by decide)))
    (fun _ _ _ h => absurd h (ne 2 (by decide) (by decide))) (fun _ _ _ h => absurd h (ne 2 (by decide) (by decide))) (fun _ _ _ h => absurd h (ne 2 (by decide) (by decide))) (fun _ _ _ _ h => absurd h (ne 3 (by decide) (by decide))) (fun _ _ _ _ h => absurd h (ne 3 (by decide) (by decide))) (fun _ _ _ _ h => absurd h (ne 3 (by decide) (by decide))) (fun _ _ _ _ _ h => absurd h (ne 4 (by decide) (by decide))) (fun _ _ _ _ _ h => absurd h (ne 4 (by decide) (by decide))) (fun _ _ _ _ _ h => absurd h (ne 4 (by decide) (by decide)))
    (fun _ _ _ _ _ _ h => absurd h (ne 5 (by decide) (by decide))) (fun _ _ _ _ _ _ h => absurd h (ne 5 (by decide) (by decide))) (fun _ _ _ _ _ _ h => absurd h (ne 5 (by decide) (by decide))) (fun _ _ _ _ _ _ h => absurd h (ne 5 (by decide) (by decide))) (fun _ _ _ _ _ _ h => absurd h (ne 5 (by decide) (by decide))) (fun _ _ _ _ _ _ h => absurd h (ne 5 (by decide) (by decide)))
    (fun _ _ _ _ _ _ _ h => absurd h (ne 6 (by decide) (by decide))) (fun _ _ _ _ _ _ _ h => absurd h (ne 6 (by decide) (by decide))) (fun _ _ _ _ _ _ _ h => absurd h (ne 6 (by decide) (by decide))) (fun _ _ _ _ _ _ _ h => absurd h (ne 6 (by decide) (by decide))) (fun _ _ _ _ _ _ _ h => absurd h (ne 6 (by decide) (by decide))) (fun _ _ _ _ _ _ _ _ => vpK (by decide)) (fun _ _ _ _ _ _ _ _ => ?_)
  rw [c1, ha]; exact K
/-- an E's works: they go through, and leave what rE says, or it is broken -/
theorem vo_seg (hG : gGG G) {N : Nat} (hN : N ≤ 400) (vs : Nat → Bool) (vr : Nat → Int32) : ∀ (e : sE) (o n b m : Nat) (s : List Int32) (μ : jM), gPP μ → tO gLaw pLaw G μ w → w + 3 ≠ 16 → (∀ i, i < 9 → μ.1 15 i = vr i) → rW e n = some m → s.length = n + b → b ≤ 4 → e9 e → wkR (μ.1 (w + 3)) o (cE vs e) → o + e.length ≤ N → n ≤ 16 → stkC (μ.1 16) s →
    (rE (vrV vs vr) e s = none → ∀ F, φ 0 (sI μ 16 F)) → (∀ s' F, rE (vrV vs vr) e s = some s' → s'.length = m + b → stkC F s' → J l mX2_valueOf (jZ0 0 G (pI φ)) G 0 0 23 [.null, .ref 15, .ref 16, .ref (w + 3), .int (nI N), .int (nI 22), .int (nI (s'.length + 2)), .int (nI (o + e.length)), .null] [] (sI μ 16 F)) →
    J l mX2_valueOf (jZ0 0 G (pI φ)) G 0 0 23 [.null, .ref 15, .ref 16, .ref (w + 3), .int (nI N), .int (nI 22), .int (nI (s.length + 2)), .int (nI o), .null] [] μ := by
  intro e
  induction e with
  | nil =>
    intro o n b m s μ hP hw hne hvr hrw hsl hb he hwk ho hl hs K0 K
    have hm : s.length = m + b := by have : n = m := by simpa [rW] using hrw
                                     omega
    have := K s (μ.1 16) rfl hm hs
    rw [sI_self] at this
    exact this
  | cons q e ih =>
    obtain ⟨k, v⟩ := q
    intro o n b m s μ hP hw hne hvr hrw hsl hb he hwk ho hl hs K0 K
    have ho' : o + (e.length + 1) ≤ N := ho
    have he' : e9 e := fun q hq => he q (List.mem_cons_of_mem _ hq)
    obtain ⟨⟨hc, -, -⟩, hwk'⟩ := wkR_tl (c := cE vs e) hwk
    have eo : o + 1 + e.length = o + (e.length + 1) := by omega
    -- one work gone, the rest
    have rest : ∀ (n1 : Nat) (s1 : List Int32) (i : Nat) (x : Int32), (rE (vrV vs vr) ((k, v) :: e) s = rE (vrV vs vr) e s1) → rW e n1 = some m → s1.length = n1 + b → n1 ≤ 16 → stkC (upd (μ.1 16) i x) s1 → J l mX2_valueOf (jZ0 0 G (pI φ)) G 0 0 23 [.null, .ref 15, .ref 16, .ref (w + 3), .int (nI N), .int (nI 22), .int (nI (s1.length + 2)), .int (nI (o + 1)), .null] [] (wI μ 16 i x) := by
      intro n1 s1 i x hre hrw1 hsl1 hl1 hs1
      refine ih (o + 1) n1 b m s1 (wI μ 16 i x) hP hw hne (fun j hj => by rw [wI_ne (by decide)]; exact hvr j hj) hrw1 hsl1 hb he' (by rw [wI_ne hne]; exact hwk') (by omega) hl1 (by rw [wI_eq]; exact hs1) (fun h F => ?_) (fun s' F h hm' hst => ?_)
      · have := K0 (hre.trans h) F
        rw [wI_as, sI_sI]; exact this
      · have := K s' F (hre.trans h) hm' hst
        rw [wI_as, sI_sI, eo]; exact this
    by_cases hk0 : k = 0
    · subst hk0
      simp only [rW, if_true] at hrw
      split at hrw
      next hn =>
        have hv : ¬ v < 0 ∧ v.toNatClampNeg ≤ 9999 := he (0, v) List.mem_cons_self rfl
        have hc' : μ.1 (w + 3) o = cwk (0, v.toNatClampNeg) := hc
        refine vo_push (t := s.length + 2) hG hP hw hN (by omega) hc' (by have := hv.2; omega) ⟨by omega, by omega⟩ ?_
        rw [nI_of_nat hv.1]
        exact rest (n + 1) (v :: s) (s.length + 3) v (by simp [rE]) hrw (by simp; omega) (by omega) ⟨by rw [upd_at], stkC_off s (by omega) hs⟩
      next => cases hrw
    · by_cases hk1 : k = 1
      · subst hk1
        simp only [rW, if_true, show ¬ (1 = 0) from by decide, if_false] at hrw
        split at hrw
        next hn =>
          obtain ⟨hn, hv9, hv0⟩ := hn
          by_cases hvs : vs v.toNatClampNeg = true
          · have hc' : μ.1 (w + 3) o = cwk (1, v.toNatClampNeg) := by
              rw [hc]; simp [hvs]
            refine vo_load (t := s.length + 2) hG hP hw hN (by omega) hc' hv9 ⟨by omega, by omega⟩ ?_
            rw [hvr _ hv9]
            exact rest (n + 1) (vr v.toNatClampNeg :: s) (s.length + 3) _ (by simp [rE, vrV, hvs]) hrw (by simp; omega) (by omega) ⟨by rw [upd_at], stkC_off s (by omega) hs⟩
          · have hc' : μ.1 (w + 3) o = cwk (0, 0) := by
              rw [hc]; simp [hvs]
            refine vo_push (t := s.length + 2) hG hP hw hN (by omega) hc' (by decide) ⟨by omega, by omega⟩ ?_
            exact rest (n + 1) (nI 0 :: s) (s.length + 3) (nI 0) (by simp [rE, vrV, hvs]; rfl) hrw (by simp; omega) (by omega) ⟨by rw [upd_at], stkC_off s (by omega) hs⟩
        next => cases hrw
      · simp only [rW, hk0, hk1, if_false] at hrw
        split at hrw
        next hn2 =>
          obtain ⟨hn2, hk5⟩ := hn2
          have hc' : μ.1 (w + 3) o = cwk (k, 0) := by rw [hc]; simp [hk0, hk1]
          match s, hsl, hs, K0, K, rest with
          | [], hsl, _, _, _, _ => simp at hsl; omega
          | [_], hsl, _, _, _, _ => simp at hsl; omega
          | b1 :: a :: s', hsl, hs, K0, K, rest =>
            have hl' : s'.length + 2 = n + b := hsl
            refine vo_op (t := s'.length + 2) hG hP hw hN (by omega) ⟨by omega, hk5⟩ hc' (by omega) hs.2.1 hs.1 (fun hz => ?_) (fun hz => ?_)
            · have := K0 (by simp [rE, hk0, hk1, hz]) (μ.1 16)
              rw [sI_self] at this; exact this
            · exact rest (n - 1) (rA k a b1 :: s') (s'.length + 3) _ (by simp [rE, hk0, hk1, hz]) hrw (by simp; omega) (by omega) ⟨by rw [upd_at], stkC_off s' (by omega) hs.2.2⟩
        next => cases hrw
end ValueOf
/-- the class's code of a LAW that begins at o -/
def cL (vs : Nat → Bool) : sLaw → Nat → List (Nat × Nat)
  | [], _ => []
  | (none, w) :: _, _ => cE vs w ++ [(7, 0)]
  | (some (u, v), w) :: r, o => (cE vs u ++ cE vs v) ++ ((6, o + u.length + v.length + w.length + 2) :: (cE vs w ++ ((7, 0) :: cL vs r (o + u.length + v.length + w.length + 2))))
def e9L (L : sLaw) : Prop := ∀ br ∈ L, e9 br.2 ∧ match br.1 with
  | none => True
  | some uv => e9 uv.1 ∧ e9 uv.2
theorem cE_len {vs : Nat → Bool} {e : sE} : (cE vs e).length = e.length := by simp [cE]
theorem rW_ev {vr : Nat → Int32} {e : sE} {s' : List Int32} (h : rE vr e [] = some s') (hl : s'.length = 1) : ∃ x, s' = [x] ∧ sEv vr e = some x := by
  obtain ⟨x, rfl⟩ := List.length_eq_one_iff.mp hl
  exact ⟨x, rfl, by simp [sEv, h]⟩
/-- rE on a pile with something below -/
theorem rE_below {vr : Nat → Int32} : ∀ (e : sE) (s b : List Int32) (n m : Nat), rW e n = some m → n ≤ s.length → rE vr e (s ++ b) = (rE vr e s).map (· ++ b) := by
  intro e
  induction e with
  | nil => intro s b n m _ _; rfl
  | cons q e ih =>
    obtain ⟨k, v⟩ := q
    intro s b n m hw hn
    by_cases h0 : k = 0
    · subst h0
      simp only [rW, if_true] at hw
      split at hw
      next => simp only [rE, if_true]; exact ih (v :: s) b _ _ hw (by simp; omega)
      next => cases hw
    · by_cases h1 : k = 1
      · subst h1
        simp only [rW, if_true, show ¬ (1 = 0) from by decide, if_false] at hw
        split at hw
        next => simp only [rE, if_true, show ¬ (1 = 0) from by decide, if_false]; exact ih (_ :: s) b _ _ hw (by simp; omega)
        next => cases hw
      · simp only [rW, h0, h1, if_false] at hw
        split at hw
        next h2 =>
          match s, hn with
          | [], hn => simp at hn; omega
          | [_], hn => simp at hn; omega
          | y :: x :: s', hn =>
            simp only [rE, h0, h1, if_false, List.cons_append]
            by_cases hz : k = 5 ∧ y = 0
            · simp [hz]
            · simp only [hz, if_false]
              exact ih (_ :: s') b _ _ hw (by simp at hn ⊢; omega)
        next => cases hw
section ValueOf2
variable {l : Launch} {G : jG} {φ : Int32 → jM → Prop} {w : Nat}
def lRes (o : Option Int32) : Int32 := match o with
  | none => 0
  | some x => x
theorem vo_law (hG : gGG G) {N : Nat} (hN : N ≤ 400) (vs : Nat → Bool) (vr : Nat → Int32) : ∀ (L : sLaw) (o : Nat) (μ : jM), gPP μ → tO gLaw pLaw G μ w → w + 3 ≠ 16 → (∀ i, i < 9 → μ.1 15 i = vr i) → wfL L → e9L L → wkR (μ.1 (w + 3)) o (cL vs L o) → o + (cL vs L o).length = N →
    (∀ F, φ (lRes (lE (vrV vs vr) L)) (sI μ 16 F)) → J l mX2_valueOf (jZ0 0 G (pI φ)) G 0 0 23 [.null, .ref 15, .ref 16, .ref (w + 3), .int (nI N), .int (nI 22), .int (nI 2), .int (nI o), .null] [] μ := by
  intro L
  induction L with
  | nil =>
    intro o μ hP hw hne hvr hwf he hwk ho K
    have e0 : o = N := by simpa [cL] using ho
    subst e0
    have hle : nI o ≤ nI o := nI_le (Nat.le_refl _) (by omega)
    have := K (μ.1 16)
    rw [sI_self] at this
    refine vo_blk hG hP hw ⟨by decide, by decide⟩ (fun _ => this) ?_ ?_ ?_ ?_ ?_ ?_ ?_ ?_ ?_ ?_ ?_ ?_ ?_ ?_ ?_ ?_ ?_ ?_ ?_ ?_ ?_ ?_ ?_ ?_ ?_ ?_ ?_ ?_
    all_goals (intro h; exact absurd hle h)
  | cons br L ih =>
    obtain ⟨ts, wd⟩ := br
    intro o μ hP hw hne hvr hwf he hwk ho K
    have hwf0 := hwf _ List.mem_cons_self
    have he0 := he _ List.mem_cons_self
    -- a term, and its ANSWER
    have term : ∀ (o1 : Nat) (μ1 : jM), gPP μ1 → tO gLaw pLaw G μ1 w → (∀ i, i < 9 → μ1.1 15 i = vr i) → wkR (μ1.1 (w + 3)) o1 (cE vs wd ++ [(7, 0)]) → o1 + wd.length + 1 ≤ N → (∀ F, φ (lRes (sEv (vrV vs vr) wd)) (sI μ1 16 F)) → J l mX2_valueOf (jZ0 0 G (pI φ)) G 0 0 23 [.null, .ref 15, .ref 16, .ref (w + 3), .int (nI N), .int (nI 22), .int (nI 2), .int (nI o1), .null] [] μ1 := by
      intro o1 μ1 hP1 hw1 hvr1 hwk1 ho1 K1
      obtain ⟨hk1, hk2⟩ := wkR_app hwk1
      refine vo_seg hG hN vs vr wd o1 0 0 1 [] μ1 hP1 hw1 hne hvr1 hwf0.1 rfl (by decide) he0.1 hk1 (by omega) (by decide) trivial (fun h F => ?_) (fun s' F h hm hst => ?_)
      · have := K1 F
        rw [sEv, h] at this
        exact this
      · obtain ⟨x, rfl, hx⟩ := rW_ev h hm
        have hc := (hk2 0 (7, 0) rfl).1
        rw [cE_len, Nat.add_zero] at hc
        refine vo_answer (μ := sI μ1 16 F) (a := x) hG hP1 hw1 hN (by omega) (by rw [sI_ne hne]; exact hc) (by rw [sI_eq]; exact hst.1) ?_
        have := K1 F
        rw [hx] at this
        exact this
    cases ts with
    | none =>
      exact term o μ hP hw hvr hwk (by simp [cL, cE_len] at ho; omega) K
    | some uv =>
      obtain ⟨u, v⟩ := uv
      obtain ⟨hu, hv⟩ := hwf0.2
      obtain ⟨hu9, hv9⟩ := he0.2
      have ho' : o + (u.length + v.length + (wd.length + (cL vs L (o + u.length + v.length + wd.length + 2)).length + 2)) = N := by
        simp [cL, cE_len] at ho; omega
      obtain ⟨h1, h2⟩ := wkR_app (c1 := cE vs u ++ cE vs v) hwk
      obtain ⟨hku, hkv⟩ := wkR_app h1
      rw [cE_len] at hkv
      rw [show (cE vs u ++ cE vs v).length = u.length + v.length from by simp [cE_len]] at h2
      obtain ⟨⟨hl1, -, -⟩, h3⟩ := wkR_tl h2
      have h3' : wkR (μ.1 (w + 3)) (o + (u.length + v.length) + 1) ((cE vs wd ++ [(7, 0)]) ++ cL vs L (o + u.length + v.length + wd.length + 2)) := by simpa using h3
      obtain ⟨h4, h5⟩ := wkR_app h3'
      rw [show (cE vs wd ++ ([(7, 0)] : List (Nat × Nat))).length = wd.length + 1 from by simp [cE_len]] at h5
      refine vo_seg hG hN vs vr u o 0 0 1 [] μ hP hw hne hvr hu rfl (by decide) hu9 hku (by omega) (by decide) trivial (fun h F => ?_) (fun s1 F1 hs1 hm1 hst1 => ?_)
      · have := K F
        have e : lE (vrV vs vr) ((some (u, v), wd) :: L) = none := by simp [lE, sEv, h]
        rw [e] at this
        exact this
      · obtain ⟨x, rfl, hx⟩ := rW_ev hs1 hm1
        have hb := rE_below (vr := vrV vs vr) v [] [x] 0 1 hv (by simp)
        refine vo_seg hG hN vs vr v (o + u.length) 0 1 1 [x] (sI μ 16 F1) hP hw hne (fun i hi => by rw [sI_ne (by decide)]; exact hvr i hi) hv rfl (by decide) hv9 (by rw [sI_ne hne]; exact hkv) (by omega) (by decide) (by rw [sI_eq]; exact hst1) (fun h F => ?_) (fun s2 F2 hs2 hm2 hst2 => ?_)
        · have hn : rE (vrV vs vr) v [] = none := by
            rw [show ([x] : List Int32) = [] ++ [x] from rfl, hb] at h
            cases hh : rE (vrV vs vr) v [] with
            | none => rfl
            | some z => rw [hh] at h; cases h
          have := K F
          have e : lE (vrV vs vr) ((some (u, v), wd) :: L) = none := by simp [lE, hx, sEv, hn]
          rw [e] at this
          rw [sI_sI]; exact this
        · rw [show ([x] : List Int32) = [] ++ [x] from rfl, hb] at hs2
          cases hh : rE (vrV vs vr) v [] with
          | none => rw [hh] at hs2; cases hs2
          | some z =>
            rw [hh] at hs2
            simp only [Option.map_some, Option.some.injEq] at hs2
            subst hs2
            have hz : z.length = 1 := by simp at hm2; exact hm2
            obtain ⟨y, rfl, hy⟩ := rW_ev hh hz
            rw [sI_sI]
            refine vo_less (μ := sI μ 16 F2) (o := o + u.length + v.length) (g := o + u.length + v.length + wd.length + 2) (a := x) (b := y) hG hP hw hN (by omega) ⟨by omega, by omega⟩ (by rw [sI_ne hne]; have h := hl1; rw [← Nat.add_assoc] at h; exact h) (by rw [sI_eq]; exact hst2.2.1) (by rw [sI_eq]; exact hst2.1) (fun hlt => ?_) (fun hlt => ?_)
            · refine term _ (sI μ 16 F2) hP hw (fun i hi => by rw [sI_ne (by decide)]; exact hvr i hi) (by rw [sI_ne hne, show o + u.length + v.length + 1 = o + (u.length + v.length) + 1 by omega]; exact h4) (by omega) (fun F => ?_)
              have := K F
              rw [sI_sI]
              simpa [lE, hx, hy, hlt] using this
            · refine ih _ (sI μ 16 F2) hP hw hne (fun i hi => by rw [sI_ne (by decide)]; exact hvr i hi) (fun b hb => hwf b (List.mem_cons_of_mem _ hb)) (fun b hb => he b (List.mem_cons_of_mem _ hb)) (by rw [sI_ne hne]; rw [show o + u.length + v.length + wd.length + 2 = o + (u.length + v.length) + 1 + (wd.length + 1) by omega] at *; exact h5) (by omega) (fun F => ?_)
              have := K F
              rw [sI_sI]
              simpa [lE, hx, hy, hlt] using this
/-- a LAW as the class holds it at w, but for what it keeps -/
def lwC (μ : jM) (w : Nat) (vs : Nat → Bool) (L : sLaw) : Prop := μ.1 w 5 = nI (cL vs L 0).length ∧ (cL vs L 0).length ≤ 400 ∧ wkR (μ.1 (w + 3)) 0 (cL vs L 0)
theorem c_X2_valueOf (hG : gGG G) {μ : jM} (hP : gPP μ) (hw : tO gLaw pLaw G μ w) (hne : w + 3 ≠ 16) {vs : Nat → Bool} {L : sLaw} (hL : lwC μ w vs L) (hwf : wfL L) (he : e9L L) : jC0 l mX2_valueOf 0 G [.ref w, .ref 15, .ref 16] μ (pI fun r μ' => r = lRes (lE (vrV vs (μ.1 15)) L) ∧ ∃ F, μ' = sI μ 16 F) := by
  refine jC0.of' (ls := [.ref w, .ref 15, .ref 16, .null, .null, .null, .null, .null, .null]) rfl rfl rfl (fun _ _ => Nat.le_of_ble_eq_true rfl) ?_
  refine b_X2_valueOf_0 hG hP hw ?_
  rw [hL.1, show (24 - 2 : Int32) = nI 22 from by decide]
  exact vo_law hG hL.2.1 vs (μ.1 15) L 0 μ hP hw hne (fun _ _ => rfl) hwf he hL.2.2 (by simp) (fun F => ⟨rfl, F, rfl⟩)
end ValueOf2
