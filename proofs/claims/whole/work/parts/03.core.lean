/-! THE SMALL MACHINE: cells by number, memory as functions; a judgement J over the kit's W, a rule for each instruction, a contract for each method -/
abbrev jM : Type := (Nat → Nat → Int32) × (Nat → Nat → Int64) × (Nat → Nat → Option Nat)
abbrev jG : Type := List (Nat × Nat)
def jcl : List vw_C := [(RX0, TX0, 10), (RX1, TX1, 9), (RX2, TX2, 6), (RX3, TX3, 5), (RX4, TX4, 13), (RX5, TX5, 1), (RX6, TX6, 2), (RX7, TX7, 4), (RX8, TX8, 20), (RX9, TX9, 9), (RX10, TX10, 11), (RX11, TX11, 9), (RX12, TX12, 80)]
def jty (ci : Nat) : Nat → FieldType := match ci with
  | 0 => tyX0 | 1 => tyX1 | 2 => tyX2 | 3 => tyX3 | 4 => tyX4 | 5 => tyX5 | 6 => tyX6 | 7 => tyX7 | 8 => tyX8 | 9 => tyX9 | 10 => tyX10 | 11 => tyX11 | _ => tyX12
theorem jty_ok {ci : Nat} {q : vw_C} (h : jcl[ci]? = some q) : ∀ k, k < q.2.2 → parseFieldDescriptor (q.2.1 k).2.2.1 = some (jty ci k) := by
  match ci, h with
  | 0, h => cases h; exact tyX0_ok
  | 1, h => cases h; exact tyX1_ok
  | 2, h => cases h; exact tyX2_ok
  | 3, h => cases h; exact tyX3_ok
  | 4, h => cases h; exact tyX4_ok
  | 5, h => cases h; exact tyX5_ok
  | 6, h => cases h; exact tyX6_ok
  | 7, h => cases h; exact tyX7_ok
  | 8, h => cases h; exact tyX8_ok
  | 9, h => cases h; exact tyX9_ok
  | 10, h => cases h; exact tyX10_ok
  | 11, h => cases h; exact tyX11_ok
  | 12, h => cases h; exact tyX12_ok
  | k + 13, h => simp [jcl] at h
theorem jnm_ok {ci : Nat} {q : vw_C} (h : jcl[ci]? = some q) : ∀ a, a < q.2.2 → ∀ b, b < q.2.2 → a ≠ b → (q.2.1 a).2.1 ≠ (q.2.1 b).2.1 := by
  match ci, h with
  | 0, h => cases h; exact nmX0
  | 1, h => cases h; exact nmX1
  | 2, h => cases h; exact nmX2
  | 3, h => cases h; exact nmX3
  | 4, h => cases h; exact nmX4
  | 5, h => cases h; exact nmX5
  | 6, h => cases h; exact nmX6
  | 7, h => cases h; exact nmX7
  | 8, h => cases h; exact nmX8
  | 9, h => cases h; exact nmX9
  | 10, h => cases h; exact nmX10
  | 11, h => cases h; exact nmX11
  | 12, h => cases h; exact nmX12
  | k + 13, h => simp [jcl] at h
def jtbl : List Cond := lw_tbl.filter goodWord
theorem jtbl_of {w : Cond} (h : w ∈ lw_tbl) (hg : goodWord w = true) : w ∈ jtbl := List.mem_filter.mpr ⟨h, hg⟩
theorem jtbl_good {w : Cond} (h : w ∈ jtbl) : (w.onTables && w.keeps) = true ∨ ∃ ty, w = .arrayClass ty := good_of_word (List.mem_filter.mp h).2
/-- the words that aren't steady: links to private constructors, the array class of Ways -/
def jnest : List Cond := lw_tbl.filter (fun w => match w with | .methodLinkNest .. => true | _ => false)
def jNW (U : State) : Prop := (∀ w ∈ jnest, va_Nw w U) ∧ va_AO RX9 U
theorem jNW.warm {s U : State} (hW : s.WarmedH U.vm) (h : jNW s) : jNW U := by
  refine ⟨fun w hw => ?_, va_AO.moved hW.alike h.2⟩
  have h1 := (List.mem_filter.mp hw).2
  have h2 := h.1 w hw
  cases w with
  | methodLinkNest a i x h => exact va_Nw.warmM hW h2
  | _ => simp at h1
theorem jin_all : (jcl.all fun q => (u_ws q.1 q.2.1 q.2.2).all fun w => decide (w ∈ jtbl)) = true := by decide +kernel
theorem jin_ok {ci : Nat} {q : vw_C} (h : jcl[ci]? = some q) : ∀ w ∈ u_ws q.1 q.2.1 q.2.2, w ∈ jtbl := by
  intro w hw
  have h1 := List.all_eq_true.mp jin_all q (List.mem_of_getElem? h)
  exact of_decide_eq_true (List.all_eq_true.mp h1 w hw)
/-- how a value of the small machine stands in the great one: .float is the law's script -/
def jtr (ad : Nat → Nat) (b : Nat) : Value → Value
  | .ref k => .ref (ad k)
  | .float _ => .ref b
  | v => v
def jfv (ad : Nat → Nat) (μ : jM) (ty : FieldType) (a k : Nat) : Value := match ty with
  | .long => .long (μ.2.1 a k)
  | .object _ => va_rf ((μ.2.2 a k).map ad)
  | .array _ => va_rf ((μ.2.2 a k).map ad)
  | _ => .int (μ.1 a k)
def jfs (ad : Nat → Nat) (μ : jM) (ci a N : Nat) : List Value := (List.range N).map (fun k => jfv ad μ (jty ci k) a k)
def jA (ad : Nat → Nat) (μ : jM) (kind n a : Nat) : vp_A := match kind with
  | 3 => (n, .inr (.inl (μ.2.1 a)))
  | 4 => (n, .inr (.inr (.inr (.inr (fun k => (μ.2.2 a k).map ad)))))
  | _ => (n, .inl (μ.1 a))
def jE (cA : Nat → ClassId) (ad : Nat → Nat) (μ : jM) (a : Nat) (sh : Nat × Nat) : va_E := if sh.1 < 5 then .inl (cA sh.1, jA ad μ sh.1 sh.2 a) else .inr (sh.1 - 5, jfs ad μ (sh.1 - 5) a sh.2)
def jW (G : jG) (cA : Nat → ClassId) (ad : Nat → Nat) (μ : jM) : va_W := G.mapIdx (fun a sh => (ad a, jE cA ad μ a sh))
def jtys (cA : Nat → ClassId) : List (ClassId × FieldType) := [(cA 0, .int), (cA 1, .byte), (cA 2, .boolean), (cA 3, .long), (cA 4, .object RX9)]
def jL (sl : Array Slot) (nL : Nat) (ad : Nat → Nat) (b : Nat) (ls : List Value) : Prop := sl.size = nL ∧ lv_wf sl ∧ ∀ (i : Nat) (v : Value), ls[i]? = some v → v ≠ .null → sl[i]? = some (.val (jtr ad b v))
abbrev jMt : Type := MethodName × ByteArray × Nat × Option FieldType
abbrev jQF : Type := List Frame → Array Value → State → va_G → (Nat → ClassId) → (Nat → Nat) → (Nat → Prop) → Nat → State → Prop
abbrev jEX : Type := Array Value → State → (Nat → Prop) → Nat → Prop
abbrev jZ : Type := Room × jQF × jEX × ((Nat → Nat) → (Nat → Nat) → Prop)
def jOK (M : jMt) (p : Program) (s : State) (m : MethodId) (args : Array Value) (meth : Method) (c : Code) : Prop :=
  p.tables.exec = Jvm.exec ∧ c.code = M.2.1 ∧ meth.sig.returnType = M.2.2.2 ∧ c.maxLocals = M.2.2.1 ∧ s.vm.findClass M.1.cls = some m.cls ∧ (∀ w ∈ jtbl, w.before args s = true) ∧ meth.locks = false ∧ (M.1.name = "<init>" → meth.name = "<init>")
def jR (G : jG) (cA : Nat → ClassId) (ad : Nat → Nat) (D : va_G) (A : Nat → Prop) (s : State) (H : Heap) (locs : List Loc) (μ : jM) : Prop :=
  (∀ q, s.heap.size ≤ q → A q) ∧ (va_K D jcl (jtys cA) s ∧ jNW s) ∧ va_P D jcl (jW G cA ad μ) H ∧ va_D A (jW G cA ad μ) ∧ va_S A s.heap H locs
def J (l : Launch) (M : jMt) (Z : jZ) (G : jG) (k n pc : Nat) (ls st : List Value) (μ : jM) : Prop :=
  ∀ (p : Program) (e : Env) (s : State) (m : MethodId) (args : Array Value) (below : List Frame) (meth : Method) (c : Code) (D : va_G) (cA : Nat → ClassId) (ad0 ad : Nat → Nat) (A : Nat → Prop) (b : Nat) (H : Heap) (locs : List Loc) (sl : Array Slot),
    jOK M p s m args meth c → Z.2.2.1 args s A b → Z.2.2.2 ad0 ad → (k ≤ Z.1.cells ∧ n ≤ Z.1.slots) → jR G cA ad D A s H locs μ → jL sl M.2.2.1 ad b ls →
    W p l e Z.1 s m args below meth c H locs k n (Z.2.1 below args s D cA ad0 A b) (F0 m pc sl (st.map (jtr ad b)))
/-! the memory's words -/
def wI (μ : jM) (a i : Nat) (x : Int32) : jM := (fun c => if c = a then upd (μ.1 a) i x else μ.1 c, μ.2)
def wL (μ : jM) (a i : Nat) (x : Int64) : jM := (μ.1, fun c => if c = a then vp_updL (μ.2.1 a) i x else μ.2.1 c, μ.2.2)
def wP (μ : jM) (a i : Nat) (x : Option Nat) : jM := (μ.1, μ.2.1, fun c => if c = a then va_up (μ.2.2 a) i x else μ.2.2 c)
def sI (μ : jM) (a : Nat) (f : Nat → Int32) : jM := (fun c => if c = a then f else μ.1 c, μ.2)
def sL (μ : jM) (a : Nat) (f : Nat → Int64) : jM := (μ.1, fun c => if c = a then f else μ.2.1 c, μ.2.2)
/-- a new cell: all of it 0 -/
def z0 (μ : jM) (a : Nat) : jM := (fun c => if c = a then fun _ => 0 else μ.1 c, fun c => if c = a then fun _ => 0 else μ.2.1 c, fun c => if c = a then fun _ => none else μ.2.2 c)
theorem jW_get {G : jG} {cA : Nat → ClassId} {ad : Nat → Nat} {μ : jM} {a : Nat} {sh : Nat × Nat} (h : G[a]? = some sh) : (jW G cA ad μ)[a]? = some (ad a, jE cA ad μ a sh) := by
  rw [jW, List.getElem?_mapIdx, h]; rfl
theorem jW_set {G : jG} {cA : Nat → ClassId} {ad : Nat → Nat} {μ μ' : jM} {a : Nat} {sh : Nat × Nat} (h : G[a]? = some sh) (ho : ∀ c, c ≠ a → ∀ q, jE cA ad μ' c q = jE cA ad μ c q) {x : va_E} (hx : x = jE cA ad μ' a sh) : (jW G cA ad μ).set a (ad a, x) = jW G cA ad μ' := by
  subst hx
  apply List.ext_getElem?
  intro i
  rw [List.getElem?_set]
  by_cases hi : a = i
  · subst hi
    have hl : a < (jW G cA ad μ).length := by
      rw [jW, List.length_mapIdx]; exact (List.getElem?_eq_some_iff.mp h).1
    rw [if_pos rfl, if_pos hl, jW_get h]
  · rw [if_neg hi, jW, jW, List.getElem?_mapIdx, List.getElem?_mapIdx]
    cases G[i]? with
    | none => rfl
    | some q => simp [ho i (fun z => hi z.symm) q]
theorem jfv_off {ad : Nat → Nat} {μ μ' : jM} {ty : FieldType} {c k : Nat} (h1 : μ'.1 c = μ.1 c) (h2 : μ'.2.1 c = μ.2.1 c) (h3 : μ'.2.2 c = μ.2.2 c) : jfv ad μ' ty c k = jfv ad μ ty c k := by
  cases ty <;> simp [jfv, h1, h2, h3]
theorem jE_off {cA : Nat → ClassId} {ad : Nat → Nat} {μ μ' : jM} {c : Nat} {q : Nat × Nat} (h1 : μ'.1 c = μ.1 c) (h2 : μ'.2.1 c = μ.2.1 c) (h3 : μ'.2.2 c = μ.2.2 c) : jE cA ad μ' c q = jE cA ad μ c q := by
  unfold jE
  have e1 : jA ad μ' q.1 q.2 c = jA ad μ q.1 q.2 c := by
    unfold jA; split <;> simp [h1, h2, h3]
  have e2 : jfs ad μ' (q.1 - 5) c q.2 = jfs ad μ (q.1 - 5) c q.2 := by
    unfold jfs; congr 1; funext k; exact jfv_off h1 h2 h3
  rw [e1, e2]
theorem wI_off {cA : Nat → ClassId} {ad : Nat → Nat} {μ : jM} {a i : Nat} {x : Int32} : ∀ c, c ≠ a → ∀ q, jE cA ad (wI μ a i x) c q = jE cA ad μ c q := fun c h q => jE_off (by simp [wI, h]) rfl rfl
theorem wL_off {cA : Nat → ClassId} {ad : Nat → Nat} {μ : jM} {a i : Nat} {x : Int64} : ∀ c, c ≠ a → ∀ q, jE cA ad (wL μ a i x) c q = jE cA ad μ c q := fun c h q => jE_off rfl (by simp [wL, h]) rfl
theorem wP_off {cA : Nat → ClassId} {ad : Nat → Nat} {μ : jM} {a i : Nat} {x : Option Nat} : ∀ c, c ≠ a → ∀ q, jE cA ad (wP μ a i x) c q = jE cA ad μ c q := fun c h q => jE_off rfl rfl (by simp [wP, h])
theorem sI_off {cA : Nat → ClassId} {ad : Nat → Nat} {μ : jM} {a : Nat} {f : Nat → Int32} : ∀ c, c ≠ a → ∀ q, jE cA ad (sI μ a f) c q = jE cA ad μ c q := fun c h q => jE_off (by simp [sI, h]) rfl rfl
/-- an object's fields with one of them set -/
theorem jfs_set {ad : Nat → Nat} {μ μ' : jM} {ci a N k : Nat} {v : Value} (hk : k < N) (hv : v = jfv ad μ' (jty ci k) a k) (ho : ∀ j, j ≠ k → jfv ad μ' (jty ci j) a j = jfv ad μ (jty ci j) a j) : (jfs ad μ ci a N).set k v = jfs ad μ' ci a N := by
  subst hv
  apply List.ext_getElem?
  intro i
  rw [List.getElem?_set]
  by_cases hi : k = i
  · subst hi
    simp [jfs, hk]
  · rw [if_neg hi]
    by_cases hn : i < N
    · simp [jfs, hn, ho i (fun z => hi z.symm)]
    · simp [jfs, hn]
theorem jfs_len {ad : Nat → Nat} {μ : jM} {ci a N : Nat} : (jfs ad μ ci a N).length = N := by simp [jfs]
theorem jfs_at {ad : Nat → Nat} {μ : jM} {ci a N k : Nat} (hk : k < N) : (jfs ad μ ci a N)[k]? = some (jfv ad μ (jty ci k) a k) := by simp [jfs, hk]
theorem jE_obj {cA : Nat → ClassId} {ad : Nat → Nat} {μ : jM} {a ci N : Nat} : jE cA ad μ a (ci + 5, N) = .inr (ci, jfs ad μ ci a N) := by
  unfold jE; rw [if_neg (by simp)]; simp
