/-! BASE OF THE MEANING: contracts' openings, memory's laws, numbers -/
def jnd (v : Value) : Bool := match v with
  | .double _ => false
  | _ => true
theorem jnd_ok {as : List Value} (h : as.all jnd = true) : ∀ x ∈ as, ∀ y, x ≠ .double y := by
  intro x hx y e
  subst e
  have := List.all_eq_true.mp h _ hx
  cases this
theorem jC0.of' {l : Launch} {M : jMt} {d : Nat} {G : jG} {as ls : List Value} {μ : jM} {post : Option Value → jM → Prop} (hy : plainName M.1.cls = true) (hls : jent M.2.2.1 as = ls) (hd : as.all jnd = true) (hlen : ∀ ad b, (lg_sl (as.map (jtr ad b))).length ≤ M.2.2.1) (h : J l M (jZ0 d G post) G 0 0 0 ls [] μ) : jC0 l M d G as μ post :=
  jC0.of hy hls (jnd_ok hd) hlen h
theorem Met.post {l : Launch} {y : MethodName} {ws : List Cond} {rm : Room} {Pc : Array Value → State → Prop} {Qc Qc' : Array Value → State → Outcome → State → Prop} {mc ms : Nat} {free : Addr → Prop} (h : Met l y ws rm Pc Qc mc ms free) (hq : ∀ a s o t, Qc a s o t → Qc' a s o t) : Met l y ws rm Pc Qc' mc ms free := by
  intro p e ha hc hk s m args below hf happ hP hK
  obtain ⟨k, o, h1, h2, h3, hQ⟩ := h p e ha hc hk s m args below hf happ hP hK
  exact ⟨k, o, h1, h2, h3, hq _ _ _ _ hQ.1, hQ.2⟩
/-- a contract's end may be weakened -/
theorem jC0.mono {l : Launch} {M : jMt} {d : Nat} {G : jG} {as : List Value} {μ : jM} {post post' : Option Value → jM → Prop} (h : jC0 l M d G as μ post) (hp : ∀ r μ', post r μ' → post' r μ') : jC0 l M d G as μ post' := by
  intro D cA ad b sz
  refine (h D cA ad b sz).post (fun a s o t hq => ?_)
  obtain ⟨⟨r, μ', h1, h2, h3, h4⟩, h5⟩ := hq
  exact ⟨⟨r, μ', h1, hp r μ' h2, h3, h4⟩, h5⟩
theorem pI_mono {φ ψ : Int32 → jM → Prop} (h : ∀ x μ, φ x μ → ψ x μ) : ∀ r μ, pI φ r μ → pI ψ r μ := fun r μ ⟨x, e, hx⟩ => ⟨x, e, h x μ hx⟩
theorem pV_mono {φ ψ : jM → Prop} (h : ∀ μ, φ μ → ψ μ) : ∀ r μ, pV φ r μ → pV ψ r μ := fun r μ ⟨e, hx⟩ => ⟨e, h μ hx⟩
/-! memory -/
theorem wI_eq {μ : jM} {a i : Nat} {x : Int32} : (wI μ a i x).1 a = upd (μ.1 a) i x := by simp [wI]
theorem wI_ne {μ : jM} {a i c : Nat} {x : Int32} (h : c ≠ a) : (wI μ a i x).1 c = μ.1 c := by simp [wI, h]
theorem wI_2 {μ : jM} {a i : Nat} {x : Int32} : (wI μ a i x).2 = μ.2 := rfl
theorem sI_eq {μ : jM} {a : Nat} {f : Nat → Int32} : (sI μ a f).1 a = f := by simp [sI]
theorem sI_ne {μ : jM} {a c : Nat} {f : Nat → Int32} (h : c ≠ a) : (sI μ a f).1 c = μ.1 c := by simp [sI, h]
theorem sI_2 {μ : jM} {a : Nat} {f : Nat → Int32} : (sI μ a f).2 = μ.2 := rfl
theorem wL_1 {μ : jM} {a i : Nat} {x : Int64} : (wL μ a i x).1 = μ.1 := rfl
theorem wL_eq {μ : jM} {a i : Nat} {x : Int64} : (wL μ a i x).2.1 a = vp_updL (μ.2.1 a) i x := by simp [wL]
theorem wL_ne {μ : jM} {a i c : Nat} {x : Int64} (h : c ≠ a) : (wL μ a i x).2.1 c = μ.2.1 c := by simp [wL, h]
theorem wL_22 {μ : jM} {a i : Nat} {x : Int64} : (wL μ a i x).2.2 = μ.2.2 := rfl
theorem upd_at {f : Nat → Int32} {i : Nat} {x : Int32} : upd f i x i = x := by simp [upd]
theorem upd_ne {f : Nat → Int32} {i j : Nat} {x : Int32} (h : j ≠ i) : upd f i x j = f j := by simp [upd, h]
theorem wI_at {μ : jM} {a i : Nat} {x : Int32} : (wI μ a i x).1 a i = x := by simp [wI, upd]
theorem wI_off' {μ : jM} {a i j : Nat} {x : Int32} (h : j ≠ i) : (wI μ a i x).1 a j = μ.1 a j := by simp [wI, upd, h]
theorem sI_sI {μ : jM} {a : Nat} {f g : Nat → Int32} : sI (sI μ a f) a g = sI μ a g := by
  simp only [sI]; congr 1; funext c; by_cases h : c = a <;> simp [h]
theorem wI_sI {μ : jM} {a i : Nat} {x : Int32} {f : Nat → Int32} : wI (sI μ a f) a i x = sI μ a (upd f i x) := by
  simp only [wI, sI]; congr 1; funext c; by_cases h : c = a <;> simp [h]
theorem wI_as {μ : jM} {a i : Nat} {x : Int32} : wI μ a i x = sI μ a (upd (μ.1 a) i x) := rfl
theorem sI_self {μ : jM} {a : Nat} : sI μ a (μ.1 a) = μ := by
  simp only [sI]; congr 1; funext c; by_cases h : c = a <;> simp [h]
theorem sI_swap {μ : jM} {a b : Nat} {f g : Nat → Int32} (h : a ≠ b) : sI (sI μ a f) b g = sI (sI μ b g) a f := by
  simp only [sI]; congr 1; funext c
  by_cases h1 : c = a
  · subst h1; simp [h]
  · simp [h1]
/-- the fixed pointers stay while no reference is written -/
theorem gPP_of {μ μ' : jM} (h : μ'.2.2 = μ.2.2) (hP : gPP μ) : gPP μ' := fun a f x hx => by rw [h]; exact hP a f x hx
theorem gNN_of {μ μ' : jM} (h : μ'.2.2 = μ.2.2) (hP : gNN μ) : gNN μ' := fun a f x hx => by rw [h]; exact hP a f x hx
theorem tO_of {gl : jG} {pl : Nat → Nat → Option Nat} {G : jG} {t : Nat} {μ μ' : jM} (h : μ'.2.2 = μ.2.2) (ht : tO gl pl G μ t) : tO gl pl G μ' t := ⟨ht.1, fun a f x hx => by rw [h]; exact ht.2 a f x hx⟩
/-! numbers -/
theorem lit (n : Nat) : (OfNat.ofNat n : Int32) = nI n := rfl
theorem ix_in {e : Int32} {n N : Nat} (he : e = nI n) (h : n < N) (hN : N < 2 ^ 31) : vp_in e N := by rw [he]; exact vp_in_nI h hN
theorem ix_cl {e : Int32} {n : Nat} (he : e = nI n) (h : n < 2 ^ 31) : e.toNatClampNeg = n := by rw [he]; exact nI_clamp h
theorem i32_ext {x y : Int32} (h : x.toInt = y.toInt) : x = y := Int32.toInt_inj.mp h
theorem i32_lt {a b : Int32} : a < b ↔ a.toInt < b.toInt := Int32.lt_iff_toInt_lt
theorem i32_le {a b : Int32} : a ≤ b ↔ a.toInt ≤ b.toInt := Int32.le_iff_toInt_le
theorem nI_dec (n : Nat) : nI (n + 1) + (-1) = nI n := pk_m1 n
theorem nI_inc (n : Nat) : nI n + 1 = nI (n + 1) := nI_1 n
theorem bool01 (p : Prop) [Decidable p] : (if p then (1 : Int32) else 0) = 0 ∨ (if p then (1 : Int32) else 0) = 1 := by by_cases h : p <;> simp [h]
/-- a loop that counts up to N, by what holds at its head -/
theorem up_loop {P : Nat → Prop} (N : Nat) (hlast : P N) (hstep : ∀ i, i < N → P (i + 1) → P i) : ∀ i, i ≤ N → P i := by
  intro i hi
  obtain ⟨k, hk⟩ : ∃ k, k = N - i := ⟨_, rfl⟩
  induction k generalizing i with
  | zero => rw [show i = N by omega]; exact hlast
  | succ k ih => exact hstep i (by omega) (ih (i + 1) (by omega) (by omega))
