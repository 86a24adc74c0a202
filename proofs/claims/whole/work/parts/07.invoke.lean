/-! CALLS -/
def jMw (M' : jMt) (na : Nat) : Prop := Cond.code M'.1 M'.2.1 M'.2.2.1 M'.2.2.2 ∈ jtbl ∧ Cond.initialized M'.1.cls ∈ jtbl ∧ M'.1.cls ≠ "java/lang/invoke/MethodHandle" ∧ M'.1.cls ≠ "java/lang/invoke/VarHandle" ∧ (parseMethodDescriptor M'.1.desc).map (fun d => d.parameters.length) = some na
def jVw (own : String) (idx : Nat) (M' : jMt) (na : Nat) : Prop := (Cond.methodLink own idx M'.1 ∈ jtbl ∧ Cond.instanceMethod M'.1 ∈ jtbl ∧ Cond.selects M'.1.cls M'.1 M'.1 ∈ jtbl) ∧ jMw M' na
def jSw (own : String) (idx : Nat) (M' : jMt) (na : Nat) : Prop := (Cond.methodLink own idx M'.1 ∈ jtbl ∧ Cond.static M'.1 ∈ jtbl) ∧ jMw M' na
def jIw (own : String) (idx : Nat) (M' : jMt) (na : Nat) : Prop := (Cond.methodLink own idx M'.1 ∈ jtbl ∧ Cond.instanceMethod M'.1 ∈ jtbl ∧ M'.1.name = "<init>") ∧ jMw M' na
def jNwd (own : String) (idx : Nat) (M' : jMt) (na : Nat) : Prop := (∃ host, Cond.methodLinkNest own idx M'.1 host ∈ jnest) ∧ (Cond.instanceMethod M'.1 ∈ jtbl ∧ M'.1.name = "<init>") ∧ jMw M' na
theorem jgood (M' : jMt) (h : Cond.code M'.1 M'.2.1 M'.2.2.1 M'.2.2.2 ∈ jtbl) : GoodIn jtbl (jws M') := by
  intro w hw
  rcases List.mem_cons.mp hw with rfl | hw
  · exact ⟨h, jtbl_good h⟩
  · exact ⟨hw, jtbl_good hw⟩
theorem jNW.same {u U : State} (h : u.vm = U.vm) (hZ : jNW u) : jNW U := by
  refine ⟨fun w hw => ?_, va_AO.moved (by rw [h]; exact Vm.Alike.refl U.vm) hZ.2⟩
  have h1 := (List.mem_filter.mp hw).2
  have h2 := hZ.1 w hw
  cases w with
  | methodLinkNest a i x h => exact va_Nw.same rfl (by assumption) h2
  | _ => simp at h1
theorem jPc_blind {as : List Value} {G : jG} {D : va_G} {cA : Nat → ClassId} {ad : Nat → Nat} {b sz : Nat} {μ : jM} : FrameBlind (jPc as G D cA ad b sz μ) := fun a U g mk h =>
  ⟨h.1, h.2.1, h.2.2.1, ⟨va_K.moved (u := U) (U := U.calling g mk a) (Vm.Alike.refl U.vm) h.2.2.2.1.1, jNW.same (u := U) (U := U.calling g mk a) rfl h.2.2.2.1.2⟩, h.2.2.2.2⟩
section JCall
variable {p : Program} {l : Launch} {e : Env} {s : State} {m : MethodId} {args : Array Value} {below : List Frame} {meth : Method} {c : Code} {D : va_G} {cA : Nat → ClassId} {ad0 ad : Nat → Nat} {A : Nat → Prop} {b : Nat} {H : Heap} {locs : List Loc} {sl : Array Slot}
variable {M M' : jMt} {Z : jZ} {G : jG} {k n pc q d' na idx : Nat} {ls st rest as : List Value} {μ : jM} {post' : Option Value → jM → Prop}
theorem jA_sub (hR : jR G cA ad D A s H locs μ) : ∀ q, va_A (jW G cA ad μ) H.size q → A q := by
  rintro q (⟨k, e, h⟩ | h)
  · exact hR.2.2.2.1.2 k (q, e) h
  · exact hR.1 q (Nat.le_trans hR.2.2.2.2.1 h)
theorem jPc_at (hR : jR G cA ad D A s H locs μ) {U : State} (hU : U.heap = H) (hW : s.WarmedH U.vm) : jPc as G D cA ad b H.size μ (as.map (jtr ad b)).toArray U :=
  ⟨rfl, by rw [hU], by rw [hU]; exact hR.2.2.1, ⟨va_K.moved hW.alike hR.2.1.1, hR.2.1.2.warm hW⟩, hR.2.2.2.1.weaken (fun _ _ _ _ => trivial)⟩
theorem j_cont0 {a : Array Value} {st0 : List Value} (ok : jOK M p s m args meth c) (ex : Z.2.2.1 args s A b) (hAD : Z.2.2.2 ad0 ad) (hcs : k ≤ Z.1.cells ∧ n ≤ Z.1.slots) (hR : jR G cA ad D A s H locs μ) (hL : jL sl M.2.2.1 ad b ls)
    (hr : va_Run p l e Z.1 s m args below meth c H locs k n 0 0 (F0 m pc sl st0) (rest.map (jtr ad b)) (jQc0 post' G D cA ad (va_A (jW G cA ad μ) H.size) b a) (va_A (jW G cA ad μ) H.size))
    (K : ∀ r μ', post' r μ' → J l M Z G k n (pc + 3) ls (r.toList ++ rest) μ') : W p l e Z.1 s m args below meth c H locs k n (Z.2.1 below args s D cA ad0 A b) (F0 m pc sl st0) := by
  intro T hT X
  obtain ⟨v, st₀, t, T', L, h0, X', hLf, e1, e2, ⟨⟨r, μ', hv, hp, hP', hD'⟩, hz, hk⟩, stp⟩ := hr T hT X
  have hsub := jA_sub hR
  cases hv
  rw [h0] at hz hk
  have hS : va_S A s.heap T'.heap (locs ++ L) := by
    refine ⟨Nat.le_trans hR.2.2.2.2.1 (by rw [e1]; exact hz), fun q h1 h2 => ?_, fun q hq => ?_⟩
    · rw [e1, hk q (Nat.lt_of_lt_of_le h1 hR.2.2.2.2.1) (fun z => h2 (hsub q z))]
      exact hR.2.2.2.2.2.1 q h1 h2
    · rcases List.mem_append.mp hq with h | h
      · exact hR.2.2.2.2.2.2 q h
      · exact hsub _ (hLf q h)
  have hR' : jR G cA ad D A s T'.heap (locs ++ L) μ' := ⟨hR.1, hR.2.1, by rw [e1]; exact hP', hD'.weaken (fun _ x _ h => hsub x.1 h), hS⟩
  have hst : (r.toList ++ rest).map (jtr ad b) = (r.map (jtr ad b)).toList ++ rest.map (jtr ad b) := by cases r <;> rfl
  have key := K r μ' hp p e s m args below meth c D cA ad0 ad A b T'.heap (locs ++ L) sl ok ex hAD hcs hR' hL
  rw [hst] at key
  obtain ⟨t2, a1, b1⟩ := key T' rfl X'
  exact ⟨t2, stp t2 a1, b1⟩
end JCall
section JInv
variable {l : Launch} {M M' : jMt} {Z : jZ} {G : jG} {k n pc q d' na idx : Nat} {ls st rest as : List Value} {μ : jM} {post' : Option Value → jM → Prop}
theorem j_callB {p : Program} {s : State} {m : MethodId} {args : Array Value} {meth : Method} {c : Code} {R : Room} {mc ms : Nat} (ok : jOK M p s m args meth c) (hw : Cond.methodLink M.1.cls idx M'.1 ∈ jtbl) (hm : jMw M' na) (hroom : d' + 1 ≤ R.frames ∧ 8 + (M'.2.2.1 + 11) + 40 * d' ≤ R.locals) :
    CallB R s args M.1.cls idx M'.1 M'.2.1 M'.2.2.1 M'.2.2.2 (jws M') (jrm d' mc ms) mc ms na :=
  callB_of na ok.2.2.2.2.2.1 (jgood M' hm.1) rfl rfl rfl (ok.2.2.2.2.2.1 _ hm.2.1) (ok.2.2.2.2.2.1 _ hw) hm.2.2 hroom
/-- an instance method that makes nothing -/
theorem j_cV {a ci N : Nat} {T : u_T} (hd : decode M.2.1 pc = .ok (.invokevirtual idx, 3)) (hq : pc + 3 = q) (hw : jVw M.1.cls idx M' na) (hG : G[a]? = some (ci + 5, N)) (hcl : jcl[ci]? = some (M'.1.cls, T, N)) (hroom : d' + 1 ≤ Z.1.frames ∧ 8 + (M'.2.2.1 + 11) + 40 * d' ≤ Z.1.locals) (hna : as.length = na) (hst : as.reverse ++ .ref a :: rest = st) (hrest : ∀ ad b, ((rest.map (jtr ad b)).map fun v => v.category).sum ≤ 8)
    (hc : jC0 l M' d' G (.ref a :: as) μ post') (K : ∀ r μ', post' r μ' → J l M Z G k n q ls (r.toList ++ rest) μ') : J l M Z G k n pc ls st μ := by
  intro p e s m args below meth c D cA ad0 ad A b H locs sl ok ex hAD hcs hR hL
  subst hq; subst hst
  have he := jW_get (cA := cA) (ad := ad) (μ := μ) hG
  rw [jE_obj] at he
  rw [show (as.reverse ++ Value.ref a :: rest).map (jtr ad b) = (as.map (jtr ad b)).reverse ++ .ref (ad a) :: rest.map (jtr ad b) from by simp [jtr]]
  exact j_cont0 ok ex hAD hcs hR hL (va_runV (As := as.map (jtr ad b)) (rest := rest.map (jtr ad b)) (b := ad a) (C := M'.1.cls) (n := na) ⟨ok.1, ok.2.1, ok.2.2.2.1, ok.2.2.2.2.1, ok.2.2.2.2.2.1⟩ (hc D cA ad b H.size) ⟨j_callB ok hw.1.1 hw.2 hroom, ok.2.2.2.2.2.1 _ hw.1.2.1, ok.2.2.2.2.2.1 _ hw.1.2.2⟩ ⟨jPc_blind, va_recv hR.2.1.1 hR.2.2.1 hcl he, fun U hU hW => jPc_at (as := .ref a :: as) hR hU hW⟩ rfl (by rw [List.length_map]; exact hna) hL.1 rfl (lv_room (hrest ad b)) hd hcs) K
theorem j_cS (hd : decode M.2.1 pc = .ok (.invokestatic idx, 3)) (hq : pc + 3 = q) (hw : jSw M.1.cls idx M' na) (hroom : d' + 1 ≤ Z.1.frames ∧ 8 + (M'.2.2.1 + 11) + 40 * d' ≤ Z.1.locals) (hna : as.length = na) (hst : as.reverse ++ rest = st) (hrest : ∀ ad b, ((rest.map (jtr ad b)).map fun v => v.category).sum ≤ 8)
    (hc : jC0 l M' d' G as μ post') (K : ∀ r μ', post' r μ' → J l M Z G k n q ls (r.toList ++ rest) μ') : J l M Z G k n pc ls st μ := by
  intro p e s m args below meth c D cA ad0 ad A b H locs sl ok ex hAD hcs hR hL
  subst hq; subst hst
  rw [show (as.reverse ++ rest).map (jtr ad b) = (as.map (jtr ad b)).reverse ++ rest.map (jtr ad b) from by simp]
  exact j_cont0 ok ex hAD hcs hR hL (va_runS (As := as.map (jtr ad b)) (rest := rest.map (jtr ad b)) (n := na) ⟨ok.1, ok.2.1, ok.2.2.2.1, ok.2.2.2.2.1, ok.2.2.2.2.2.1⟩ (hc D cA ad b H.size) ⟨j_callB ok hw.1.1 hw.2 hroom, ok.2.2.2.2.2.1 _ hw.1.2⟩ ⟨jPc_blind, fun U hU hW => jPc_at hR hU hW⟩ rfl (by rw [List.length_map]; exact hna) hL.1 rfl (lv_room (hrest ad b)) hd hcs) K
/-- Object.<init> -/
theorem j_objInit {a : Nat} (hd : decode M.2.1 pc = .ok (.invokespecial idx, 3)) (hq : pc + 3 = q) (h1 : Cond.methodLink M.1.cls idx objectInit ∈ jtbl) (h2 : Cond.instanceMethod objectInit ∈ jtbl) (h3 : Cond.code objectInit ⟨#[0xb1]⟩ 1 none ∈ jtbl) (hroom : 1 ≤ Z.1.frames ∧ 12 ≤ Z.1.locals) (hr : M.2.2.1 = M.2.2.1) (K : J l M Z G k n q ls [] μ) : J l M Z G k n pc ls [.ref a] μ := by
  intro p e s m args below meth c D cA ad0 ad A b H locs sl ok ex hAD hcs hR hL
  subst hq
  refine W.objInit ok.1 ok.2.1 ok.2.2.2.2.1 (ok.2.2.2.2.2.1 _ h1) (ok.2.2.2.2.2.1 _ h2) (ok.2.2.2.2.2.1 _ h3) rfl (by rw [ok.2.2.2.1]; exact hL.1) rfl hd hroom.1 hroom.2 ?_
  exact K p e s m args below meth c D cA ad0 ad A b H locs sl ok ex hAD hcs hR hL
end JInv
