/-! CONTRACTS. jC0: a method that makes nothing; jCA: one that may make cells (at most mc of ms slots) -/
def jQc0 (post : Option Value → jM → Prop) (G : jG) (D : va_G) (cA : Nat → ClassId) (ad : Nat → Nat) (A : Nat → Prop) (b : Nat) : Array Value → State → Outcome → State → Prop := fun _ st oc t =>
  (∃ (r : Option Value) (μ' : jM), oc = .returned (r.map (jtr ad b)) ∧ post r μ' ∧ va_P D jcl (jW G cA ad μ') t.heap ∧ va_D A (jW G cA ad μ')) ∧ va_F A st t
def jQcA (post : Option Value → jM → jG → Prop) (g0 : Nat) (D : va_G) (cA : Nat → ClassId) (ad0 : Nat → Nat) (A : Nat → Prop) (b : Nat) : Array Value → State → Outcome → State → Prop := fun _ st oc t =>
  (∃ (r : Option Value) (μ' : jM) (G' : jG) (ad' : Nat → Nat), oc = .returned (r.map (jtr ad' b)) ∧ post r μ' G' ∧ (∀ q, q < g0 → ad' q = ad0 q) ∧ va_P D jcl (jW G' cA ad' μ') t.heap ∧ va_D A (jW G' cA ad' μ')) ∧ va_F A st t
abbrev jrm (d mc ms : Nat) : Room := { frames := d, cells := mc, slots := ms, locals := 40 * d }
def jZ0 (d : Nat) (G : jG) (post : Option Value → jM → Prop) : jZ := (jrm d 0 0, fun below args s D cA ad0 A b => MQ below (jQc0 post G D cA ad0 A b) args s 0 0 A, fun _ _ _ _ => True, fun ad0 ad => ad = ad0)
def jZA (d mc ms g0 : Nat) (post : Option Value → jM → jG → Prop) (X : jEX) : jZ := (jrm d mc ms, fun below args s D cA ad0 A b => MQ below (jQcA post g0 D cA ad0 A b) args s mc ms A, X, fun ad0 ad => ∀ q, q < g0 → ad q = ad0 q)
def jws (M : jMt) : List Cond := Cond.code M.1 M.2.1 M.2.2.1 M.2.2.2 :: jtbl
def jPc (as : List Value) (G : jG) (D : va_G) (cA : Nat → ClassId) (ad : Nat → Nat) (b sz : Nat) (μ : jM) : Array Value → State → Prop :=
  va_Pc (as.map (jtr ad b)) (fun U => U.heap.size = sz ∧ va_P D jcl (jW G cA ad μ) U.heap ∧ (va_K D jcl (jtys cA) U ∧ jNW U) ∧ va_D (fun _ => True) (jW G cA ad μ))
def jC0 (l : Launch) (M : jMt) (d : Nat) (G : jG) (as : List Value) (μ : jM) (post : Option Value → jM → Prop) : Prop :=
  ∀ (D : va_G) (cA : Nat → ClassId) (ad : Nat → Nat) (b sz : Nat), Met l M.1 (jws M) (jrm d 0 0) (jPc as G D cA ad b sz μ) (jQc0 post G D cA ad (va_A (jW G cA ad μ) sz) b) 0 0 (va_A (jW G cA ad μ) sz)
/-- stands that hold from the start on, of cells that aren't in the world: they stay as the vm warms and as a frame is pushed -/
def jXs (X : jEX) : Prop := (∀ (a a' : Array Value) (U V : State) (A A' : Nat → Prop) (b : Nat), X a U A b → U.WarmedH V.vm → U.heap.size ≤ V.heap.size → (∀ q, q < U.heap.size → ¬ A q → V.heap[q]? = U.heap[q]?) → (∀ q, q < U.heap.size → A' q → A q) → X a' V A' b)
def jCA (l : Launch) (M : jMt) (d mc ms : Nat) (G : jG) (as : List Value) (μ : jM) (post : Option Value → jM → jG → Prop) (X : jEX) : Prop :=
  ∀ (D : va_G) (cA : Nat → ClassId) (ad : Nat → Nat) (b sz : Nat), Met l M.1 (jws M) (jrm d mc ms) (fun a U => jPc as G D cA ad b sz μ a U ∧ X a U (va_A (jW G cA ad μ) sz) b) (jQcA post G.length D cA ad (va_A (jW G cA ad μ) sz) b) mc ms (va_A (jW G cA ad μ) sz)
/-! the locals at a method's entry -/
def jargs : List Value → List Value
  | [] => []
  | v :: r => match v with
    | .long x => .long x :: .null :: jargs r
    | .double x => .double x :: .null :: jargs r
    | w => w :: jargs r
def jent (nL : Nat) (as : List Value) : List Value := jargs as ++ List.replicate (nL - (jargs as).length) .null
theorem jargs_mem {ad : Nat → Nat} {b : Nat} : ∀ (as : List Value) (o i : Nat) (v : Value), (jargs as)[i]? = some v → v ≠ .null → (∀ x ∈ as, ∀ y, x ≠ .double y) → (o + i, jtr ad b v) ∈ lv_args o (as.map (jtr ad b)) := by
  intro as
  induction as with
  | nil => intro o i v h; simp [jargs] at h
  | cons w r ih =>
    intro o i v h hv hd
    have ih' := fun o i => ih o i v
    have hr : ∀ x ∈ r, ∀ y, x ≠ .double y := fun x hx => hd x (List.mem_cons_of_mem _ hx)
    have one : ∀ w' : Value, w' = w → (∀ y, w ≠ .long y) → jargs (w :: r) = w :: jargs r → (o + i, jtr ad b v) ∈ lv_args o ((w :: r).map (jtr ad b)) := by
      intro w' hw' hl hj
      rw [hj] at h
      have hc : ¬ (jtr ad b w).category = 2 := fun z => by
        rcases jtr_cat2 z with ⟨x, rfl⟩ | ⟨x, rfl⟩
        · exact hl x rfl
        · exact hd _ List.mem_cons_self x rfl
      simp only [List.map_cons, lv_args, hc, if_false]
      cases i with
      | zero => simp at h; subst h; exact List.mem_cons_self
      | succ i =>
        simp at h
        have := ih' (o + 1) i h hv hr
        rw [show o + 1 + i = o + (i + 1) by omega] at this
        exact List.mem_cons_of_mem _ this
    cases w with
    | long x =>
      simp only [jargs] at h
      simp only [List.map_cons, lv_args, jtr, Value.category, if_true]
      match i, h with
      | 0, h => simp at h; subst h; exact List.mem_cons_self
      | 1, h => simp at h; exact absurd h.symm hv
      | i + 2, h =>
        simp at h
        have := ih' (o + 2) i h hv hr
        rw [show o + 2 + i = o + (i + 2) by omega] at this
        exact List.mem_cons_of_mem _ this
    | double x => exact absurd rfl (hd _ List.mem_cons_self x)
    | int x => exact one _ rfl (fun y z => by cases z) rfl
    | ref x => exact one _ rfl (fun y z => by cases z) rfl
    | float x => exact one _ rfl (fun y z => by cases z) rfl
    | null => exact one _ rfl (fun y z => by cases z) rfl
    | retAddr x => exact one _ rfl (fun y z => by cases z) rfl
theorem jL_entry {ad : Nat → Nat} {b nL : Nat} {as : List Value} {sl : Array Slot} (hd : ∀ x ∈ as, ∀ y, x ≠ .double y) (h : lv_has sl nL (lv_args 0 (as.map (jtr ad b)))) : jL sl nL ad b (jent nL as) := by
  refine ⟨h.1, h.2.1, fun i v hi hv => ?_⟩
  unfold jent at hi
  by_cases hl : i < (jargs as).length
  · rw [List.getElem?_append_left hl] at hi
    have := jargs_mem (ad := ad) (b := b) as 0 i v hi hv hd
    rw [Nat.zero_add] at this
    exact h.2.2 _ this
  · rw [List.getElem?_append_right (by omega)] at hi
    have := List.mem_of_getElem? hi
    exact absurd (List.eq_of_mem_replicate this) hv
theorem jC0.of {l : Launch} {M : jMt} {d : Nat} {G : jG} {as ls : List Value} {μ : jM} {post : Option Value → jM → Prop} (hy : plainName M.1.cls = true) (hls : jent M.2.2.1 as = ls) (hd : ∀ x ∈ as, ∀ y, x ≠ .double y) (hlen : ∀ ad b, (lg_sl (as.map (jtr ad b))).length ≤ M.2.2.1) (h : J l M (jZ0 d G post) G 0 0 0 ls [] μ) : jC0 l M d G as μ post := by
  intro D cA ad b sz
  refine Met.ofW (cc := M.2.1) (maxL := M.2.2.1) (ret := M.2.2.2) hy rfl ?_
  intro p e s m args below meth c s₁ B hml hv
  obtain ⟨rfl, hsz, hP, hK, hD0⟩ := hv
  have hts := atoms_spec (ws := jws M) B.pre
  have hown : s.vm.findClass M.1.cls = some m.cls := findClass_of_methodNamed B.named
  have hin : meth.name = M.1.name := (name_of_methodNamed B.named B.method).1
  subst hsz
  have hD := hD0.self (sz := s.heap.size)
  have hl := lv_entry (as.map (jtr ad b)) (n := M.2.2.1) (hlen ad b)
  rw [lg_entry_eq]
  subst hls
  exact h p e s m _ below meth c D cA ad ad (va_A (jW G cA ad μ) s.heap.size) b s.heap [] _ ⟨B.exec, B.bytes, B.returns, hml, hown, fun w hw => hts w (List.mem_cons_of_mem _ hw), B.notSynchronized, fun z => hin.trans z⟩ trivial rfl ⟨Nat.zero_le _, Nat.zero_le _⟩ ⟨fun q hq => Or.inr hq, hK, hP, hD, va_S.rf⟩ (jL_entry hd hl)
theorem jCA.of {l : Launch} {M : jMt} {d mc ms : Nat} {G : jG} {as ls : List Value} {μ : jM} {post : Option Value → jM → jG → Prop} {X : jEX} (hy : plainName M.1.cls = true) (hls : jent M.2.2.1 as = ls) (hd : ∀ x ∈ as, ∀ y, x ≠ .double y) (hlen : ∀ ad b, (lg_sl (as.map (jtr ad b))).length ≤ M.2.2.1) (h : J l M (jZA d mc ms G.length post X) G 0 0 0 ls [] μ) : jCA l M d mc ms G as μ post X := by
  intro D cA ad b sz
  refine Met.ofW (cc := M.2.1) (maxL := M.2.2.1) (ret := M.2.2.2) hy rfl ?_
  intro p e s m args below meth c s₁ B hml hv
  obtain ⟨⟨rfl, hsz, hP, hK, hD0⟩, hX⟩ := hv
  have hts := atoms_spec (ws := jws M) B.pre
  have hown : s.vm.findClass M.1.cls = some m.cls := findClass_of_methodNamed B.named
  have hin : meth.name = M.1.name := (name_of_methodNamed B.named B.method).1
  subst hsz
  have hD := hD0.self (sz := s.heap.size)
  have hl := lv_entry (as.map (jtr ad b)) (n := M.2.2.1) (hlen ad b)
  rw [lg_entry_eq]
  subst hls
  exact h p e s m _ below meth c D cA ad ad (va_A (jW G cA ad μ) s.heap.size) b s.heap [] _ ⟨B.exec, B.bytes, B.returns, hml, hown, fun w hw => hts w (List.mem_cons_of_mem _ hw), B.notSynchronized, fun z => hin.trans z⟩ hX (fun _ _ => rfl) ⟨Nat.zero_le _, Nat.zero_le _⟩ ⟨fun q hq => Or.inr hq, hK, hP, hD, va_S.rf⟩ (jL_entry hd hl)
/-! ends -/
def pI (φ : Int32 → jM → Prop) : Option Value → jM → Prop := fun r μ => ∃ x, r = some (.int x) ∧ φ x μ
def pJ (φ : Int64 → jM → Prop) : Option Value → jM → Prop := fun r μ => ∃ x, r = some (.long x) ∧ φ x μ
def pV (φ : jM → Prop) : Option Value → jM → Prop := fun r μ => r = none ∧ φ μ
section JEnd
variable {l : Launch} {M : jMt} {G : jG} {d pc : Nat} {ls : List Value} {μ : jM}
theorem j_iret {φ : Int32 → jM → Prop} {x : Int32} (hd : decode M.2.1 pc = .ok (.ireturn, 1)) (hr : M.2.2.2 = some .int) (h : φ x μ) : J l M (jZ0 d G (pI φ)) G 0 0 pc ls [.int x] μ := by
  intro p e s m args below meth c D cA ad0 ad A b H locs sl ok ex hAD hcs hR hL
  have hAD : ad = ad0 := hAD
  subst hAD
  have hlocks := ok.2.2.2.2.2.2.1
  exact W.iret (v := x) ok.1 ok.2.1 (ok.2.2.1.trans hr) (fun t ht hW => ⟨⟨some (.int x), μ, rfl, ⟨x, rfl, h⟩, by rw [ht]; exact hR.2.2.1, hR.2.2.2.1⟩, hR.2.2.2.2.F ht⟩) hR.2.2.2.2.2.2 hd
theorem j_zret {φ : Int32 → jM → Prop} {x : Int32} (hd : decode M.2.1 pc = .ok (.ireturn, 1)) (hr : M.2.2.2 = some .boolean) (hx : x = 0 ∨ x = 1) (h : φ x μ) : J l M (jZ0 d G (pI φ)) G 0 0 pc ls [.int x] μ := by
  intro p e s m args below meth c D cA ad0 ad A b H locs sl ok ex hAD hcs hR hL
  have hAD : ad = ad0 := hAD
  subst hAD
  have hlocks := ok.2.2.2.2.2.2.1
  exact W.zret (v := x) ok.1 ok.2.1 (ok.2.2.1.trans hr) (jz_ok hx).1 (fun t ht hW => ⟨⟨some (.int x), μ, rfl, ⟨x, rfl, h⟩, by rw [ht]; exact hR.2.2.1, hR.2.2.2.1⟩, hR.2.2.2.2.F ht⟩) hR.2.2.2.2.2.2 hd
theorem j_lret {φ : Int64 → jM → Prop} {x : Int64} (hd : decode M.2.1 pc = .ok (.lreturn, 1)) (hr : M.2.2.2 = some .long) (h : φ x μ) : J l M (jZ0 d G (pJ φ)) G 0 0 pc ls [.long x] μ := by
  intro p e s m args below meth c D cA ad0 ad A b H locs sl ok ex hAD hcs hR hL
  have hAD : ad = ad0 := hAD
  subst hAD
  have hlocks := ok.2.2.2.2.2.2.1
  exact W.lret (v := x) ok.1 ok.2.1 (ok.2.2.1.trans hr) (fun t ht hW => ⟨⟨some (.long x), μ, rfl, ⟨x, rfl, h⟩, by rw [ht]; exact hR.2.2.1, hR.2.2.2.1⟩, hR.2.2.2.2.F ht⟩) hR.2.2.2.2.2.2 hd
theorem j_vret {φ : jM → Prop} (hd : decode M.2.1 pc = .ok (.return_, 1)) (hr : M.2.2.2 = none) (h : φ μ) : J l M (jZ0 d G (pV φ)) G 0 0 pc ls [] μ := by
  intro p e s m args below meth c D cA ad0 ad A b H locs sl ok ex hAD hcs hR hL
  have hAD : ad = ad0 := hAD
  subst hAD
  have hlocks := ok.2.2.2.2.2.2.1
  exact W.vret ok.1 ok.2.1 (ok.2.2.1.trans hr) (fun t ht hW => ⟨⟨none, μ, rfl, ⟨rfl, h⟩, by rw [ht]; exact hR.2.2.1, hR.2.2.2.1⟩, hR.2.2.2.2.F ht⟩) hR.2.2.2.2.2.2 hd
/-- an end of a method that may have made cells -/
theorem j_vretA {mc ms g0 k n : Nat} {post : Option Value → jM → jG → Prop} {X : jEX} (hd : decode M.2.1 pc = .ok (.return_, 1)) (hr : M.2.2.2 = none) (h : post none μ G) : J l M (jZA d mc ms g0 post X) G k n pc ls [] μ := by
  intro p e s m args below meth c D cA ad0 ad A b H locs sl ok ex hAD hcs hR hL
  have hlocks := ok.2.2.2.2.2.2.1
  refine W.widen hcs.1 hcs.2 ?_
  exact W.vret ok.1 ok.2.1 (ok.2.2.1.trans hr) (fun t ht hW => ⟨⟨none, μ, G, ad, rfl, h, hAD, by rw [ht]; exact hR.2.2.1, hR.2.2.2.1⟩, hR.2.2.2.2.F ht⟩) hR.2.2.2.2.2.2 hd
theorem j_iretA {mc ms g0 k n : Nat} {post : Option Value → jM → jG → Prop} {X : jEX} {x : Int32} (hd : decode M.2.1 pc = .ok (.ireturn, 1)) (hr : M.2.2.2 = some .int) (h : post (some (.int x)) μ G) : J l M (jZA d mc ms g0 post X) G k n pc ls [.int x] μ := by
  intro p e s m args below meth c D cA ad0 ad A b H locs sl ok ex hAD hcs hR hL
  have hlocks := ok.2.2.2.2.2.2.1
  refine W.widen hcs.1 hcs.2 ?_
  exact W.iret (v := x) ok.1 ok.2.1 (ok.2.2.1.trans hr) (fun t ht hW => ⟨⟨some (.int x), μ, G, ad, rfl, h, hAD, by rw [ht]; exact hR.2.2.1, hR.2.2.2.1⟩, hR.2.2.2.2.F ht⟩) hR.2.2.2.2.2.2 hd
end JEnd
