section JCallA
variable {p : Program} {l : Launch} {e : Env} {s : State} {m : MethodId} {args : Array Value} {below : List Frame} {meth : Method} {c : Code} {D : va_G} {cA : Nat → ClassId} {ad0 ad : Nat → Nat} {A : Nat → Prop} {b : Nat} {H : Heap} {locs : List Loc} {sl : Array Slot}
variable {M M' : jMt} {Z : jZ} {G : jG} {k n pc q d' mc ms na idx : Nat} {ls st rest as : List Value} {μ : jM} {post' : Option Value → jM → jG → Prop} {X : jEX}
theorem jPcA_blind (hX : jXs X) : FrameBlind (fun a U => jPc as G D cA ad b q μ a U ∧ X a U A b) := fun a U g mk h =>
  ⟨jPc_blind a U g mk h.1, hX a a U (U.calling g mk a) A A b h.2 (State.WarmedH.refl U) (Nat.le_refl _) (fun _ _ _ => rfl) (fun _ _ h => h)⟩
theorem jX_at (hX : jXs X) (hZX : ∀ a s A b, Z.2.2.1 a s A b → X a s A b) (ex : Z.2.2.1 args s A b) (hR : jR G cA ad D A s H locs μ) {U : State} {a : Array Value} (hU : U.heap = H) (hW : s.WarmedH U.vm) : X a U (va_A (jW G cA ad μ) H.size) b :=
  hX args a s U A _ b (hZX _ _ _ _ ex) hW (by rw [hU]; exact hR.2.2.2.2.1) (fun q h1 h2 => by rw [hU]; exact hR.2.2.2.2.2.1 q h1 h2) (fun q _ h => jA_sub hR q h)
theorem j_contA {a : Array Value} {st0 : List Value} (ok : jOK M p s m args meth c) (ex : Z.2.2.1 args s A b) (hAD : Z.2.2.2 ad0 ad) (hcs : k + mc ≤ Z.1.cells ∧ n + ms ≤ Z.1.slots) (hR : jR G cA ad D A s H locs μ) (hL : jL sl M.2.2.1 ad b ls)
    (hZ : jZg Z G.length) (hsc : jSc G.length (ls ++ rest)) (hr : va_Run p l e Z.1 s m args below meth c H locs k n mc ms (F0 m pc sl st0) (rest.map (jtr ad b)) (jQcA post' G.length D cA ad (va_A (jW G cA ad μ) H.size) b a) (va_A (jW G cA ad μ) H.size))
    (K : ∀ r μ' G', post' r μ' G' → J l M Z G' (k + mc) (n + ms) (pc + 3) ls (r.toList ++ rest) μ') : W p l e Z.1 s m args below meth c H locs k n (Z.2.1 below args s D cA ad0 A b) (F0 m pc sl st0) := by
  intro T hT X
  obtain ⟨v, st₀, t, T', L, h0, X', hLf, e1, e2, ⟨⟨r, μ', G', ad', hv, hp, hag, hP', hD'⟩, hz, hk⟩, stp⟩ := hr T hT X
  have hsub := jA_sub hR
  cases hv
  rw [h0] at hz hk
  have hS : va_S A s.heap T'.heap (locs ++ L) := by
    refine ⟨Nat.le_trans hR.2.2.2.2.1 (by rw [e1]; exact hz), fun q h1 h2 => ?_, fun q hq => ?_⟩
    · rw [e1, hk q (Nat.lt_of_lt_of_le h1 hR.2.2.2.2.1) (fun z => h2 (hsub q z))]
      exact hR.2.2.2.2.2.1 q h1 h2
    · rcases List.mem_append.mp hq with h | h
      · exact hR.2.2.2.2.2.2 q h
      · exact hsub _ (hLf q h)
  have hR' : jR G' cA ad' D A s T'.heap (locs ++ L) μ' := ⟨hR.1, hR.2.1, by rw [e1]; exact hP', hD'.weaken (fun _ x _ h => hsub x.1 h), hS⟩
  have hst : (r.toList ++ rest).map (jtr ad' b) = (r.map (jtr ad' b)).toList ++ rest.map (jtr ad b) := by
    rw [← jtr_scL hag (fun v hv => hsc v (List.mem_append_right _ hv))]
    cases r <;> rfl
  have key := K r μ' G' hp p e s m args below meth c D cA ad0 ad' A b T'.heap (locs ++ L) sl ok ex (hZ _ _ _ hAD hag) hcs hR' (jL_sc hag (fun v hv => hsc v (List.mem_append_left _ hv)) hL)
  rw [hst] at key
  obtain ⟨t2, a1, b1⟩ := key T' rfl X'
  exact ⟨t2, stp t2 a1, b1⟩
end JCallA
section JInvA
variable {l : Launch} {M M' : jMt} {Z : jZ} {G : jG} {k n pc q d' mc ms na idx : Nat} {ls st rest as : List Value} {μ : jM} {post' : Option Value → jM → jG → Prop} {X : jEX}
theorem j_cVA {a ci N : Nat} {T : u_T} (hd : decode M.2.1 pc = .ok (.invokevirtual idx, 3)) (hq : pc + 3 = q) (hw : jVw M.1.cls idx M' na) (hG : G[a]? = some (ci + 5, N)) (hcl : jcl[ci]? = some (M'.1.cls, T, N)) (hroom : d' + 1 ≤ Z.1.frames ∧ 8 + (M'.2.2.1 + 11) + 40 * d' ≤ Z.1.locals) (hna : as.length = na) (hst : as.reverse ++ .ref a :: rest = st) (hrest : ∀ ad b, ((rest.map (jtr ad b)).map fun v => v.category).sum ≤ 8)
    (hX : jXs X) (hZX : ∀ a s A b, Z.2.2.1 a s A b → X a s A b) (hcs' : k + mc ≤ Z.1.cells ∧ n + ms ≤ Z.1.slots) (hZ : jZg Z G.length) (hsc : jSc G.length (ls ++ rest))
    (hc : jCA l M' d' mc ms G (.ref a :: as) μ post' X) (K : ∀ r μ' G', post' r μ' G' → J l M Z G' (k + mc) (n + ms) q ls (r.toList ++ rest) μ') : J l M Z G k n pc ls st μ := by
  intro p e s m args below meth c D cA ad0 ad A b H locs sl ok ex hAD hcs hR hL
  subst hq; subst hst
  have he := jW_get (cA := cA) (ad := ad) (μ := μ) hG
  rw [jE_obj] at he
  rw [show (as.reverse ++ Value.ref a :: rest).map (jtr ad b) = (as.map (jtr ad b)).reverse ++ .ref (ad a) :: rest.map (jtr ad b) from by simp [jtr]]
  exact j_contA ok ex hAD hcs' hR hL hZ hsc (va_runV (As := as.map (jtr ad b)) (rest := rest.map (jtr ad b)) (b := ad a) (C := M'.1.cls) (n := na) ⟨ok.1, ok.2.1, ok.2.2.2.1, ok.2.2.2.2.1, ok.2.2.2.2.2.1⟩ (hc D cA ad b H.size) ⟨j_callB ok hw.1.1 hw.2 hroom, ok.2.2.2.2.2.1 _ hw.1.2.1, ok.2.2.2.2.2.1 _ hw.1.2.2⟩ ⟨jPcA_blind hX, va_recv hR.2.1.1 hR.2.2.1 hcl he, fun U hU hW => ⟨jPc_at (as := .ref a :: as) hR hU hW, jX_at hX hZX ex hR hU hW⟩⟩ rfl (by rw [List.length_map]; exact hna) hL.1 rfl (lv_room (hrest ad b)) hd hcs') K
theorem j_cIA {a : Nat} (hd : decode M.2.1 pc = .ok (.invokespecial idx, 3)) (hq : pc + 3 = q) (hw : jIw M.1.cls idx M' na) (hret : M'.2.2.2 = none) (hroom : d' + 1 ≤ Z.1.frames ∧ 8 + (M'.2.2.1 + 11) + 40 * d' ≤ Z.1.locals) (hna : as.length = na) (hst : as.reverse ++ .ref a :: rest = st) (hrest : ∀ ad b, ((rest.map (jtr ad b)).map fun v => v.category).sum ≤ 8)
    (hX : jXs X) (hZX : ∀ a s A b, Z.2.2.1 a s A b → X a s A b) (hcs' : k + mc ≤ Z.1.cells ∧ n + ms ≤ Z.1.slots) (hZ : jZg Z G.length) (hsc : jSc G.length (ls ++ rest))
    (hc : jCA l M' d' mc ms G (.ref a :: as) μ post' X) (K : ∀ r μ' G', post' r μ' G' → J l M Z G' (k + mc) (n + ms) q ls (r.toList ++ rest) μ') : J l M Z G k n pc ls st μ := by
  intro p e s m args below meth c D cA ad0 ad A b H locs sl ok ex hAD hcs hR hL
  subst hq; subst hst
  rw [show (as.reverse ++ Value.ref a :: rest).map (jtr ad b) = (as.map (jtr ad b)).reverse ++ .ref (ad a) :: rest.map (jtr ad b) from by simp [jtr]]
  have hB := j_callB (R := Z.1) (mc := mc) (ms := ms) ok hw.1.1 hw.2 hroom
  rw [hret] at hB
  exact j_contA ok ex hAD hcs' hR hL hZ hsc (va_runI (As := as.map (jtr ad b)) (rest := rest.map (jtr ad b)) (b := ad a) (n := na) ⟨ok.1, ok.2.1, ok.2.2.2.1, ok.2.2.2.2.1, ok.2.2.2.2.2.1⟩ (hc D cA ad b H.size) ⟨hB, hw.1.2.2, ok.2.2.2.2.2.1 _ hw.1.2.1⟩ ⟨jPcA_blind hX, fun U hU hW => ⟨jPc_at (as := .ref a :: as) hR hU hW, jX_at hX hZX ex hR hU hW⟩⟩ rfl (by rw [List.length_map]; exact hna) hL.1 rfl (lv_room (hrest ad b)) hd hcs') K
theorem j_cNA {a : Nat} (hd : decode M.2.1 pc = .ok (.invokespecial idx, 3)) (hq : pc + 3 = q) (hw : jNwd M.1.cls idx M' na) (hret : M'.2.2.2 = none) (hroom : d' + 1 ≤ Z.1.frames ∧ 8 + (M'.2.2.1 + 11) + 40 * d' ≤ Z.1.locals) (hna : as.length = na) (hst : as.reverse ++ .ref a :: rest = st) (hrest : ∀ ad b, ((rest.map (jtr ad b)).map fun v => v.category).sum ≤ 8)
    (hX : jXs X) (hZX : ∀ a s A b, Z.2.2.1 a s A b → X a s A b) (hcs' : k + mc ≤ Z.1.cells ∧ n + ms ≤ Z.1.slots) (hZ : jZg Z G.length) (hsc : jSc G.length (ls ++ rest))
    (hc : jCA l M' d' mc ms G (.ref a :: as) μ post' X) (K : ∀ r μ' G', post' r μ' G' → J l M Z G' (k + mc) (n + ms) q ls (r.toList ++ rest) μ') : J l M Z G k n pc ls st μ := by
  intro p e s m args below meth c D cA ad0 ad A b H locs sl ok ex hAD hcs hR hL
  subst hq; subst hst
  rw [show (as.reverse ++ Value.ref a :: rest).map (jtr ad b) = (as.map (jtr ad b)).reverse ++ .ref (ad a) :: rest.map (jtr ad b) from by simp [jtr]]
  obtain ⟨⟨host, hh⟩, ⟨h1, h2⟩, hm⟩ := hw
  have hB := va_cnB (R := Z.1) (mc := mc) (ms := ms) (rm := jrm d' mc ms) na ok.2.2.2.2.2.1 (jgood M' hm.1) rfl rfl rfl (hR.2.1.2.1 _ hh) (ok.2.2.2.2.2.1 _ hm.2.1) hm.2.2 hroom
  rw [hret] at hB
  exact j_contA ok ex hAD hcs' hR hL hZ hsc (va_runIN (As := as.map (jtr ad b)) (rest := rest.map (jtr ad b)) (b := ad a) (n := na) ⟨ok.1, ok.2.1, ok.2.2.2.1, ok.2.2.2.2.1, ok.2.2.2.2.2.1⟩ (hc D cA ad b H.size) ⟨hB, h2, ok.2.2.2.2.2.1 _ h1⟩ ⟨jPcA_blind hX, fun U hU hW => ⟨jPc_at (as := .ref a :: as) hR hU hW, jX_at hX hZX ex hR hU hW⟩⟩ rfl (by rw [List.length_map]; exact hna) hL.1 rfl (lv_room (hrest ad b)) hd hcs') K
/-! the JDK's own -/
theorem j_min {x y : Int32} (hd : decode M.2.1 pc = .ok (.invokestatic idx, 3)) (hq : pc + 3 = q) (hw : Cond.methodLink M.1.cls idx Lib.Math.min.name ∈ jtbl ∧ Cond.static Lib.Math.min.name ∈ jtbl ∧ Cond.initialized "java/lang/Math" ∈ jtbl ∧ Cond.code Lib.Math.min.name Lib.Math.min.code 2 (some .int) ∈ jtbl) (hroom : 1 ≤ Z.1.frames ∧ ∀ ad b, ((st.map (jtr ad b)).map fun v => v.category).sum + 13 ≤ Z.1.locals) (K : J l M Z G k n q ls (.int (if y < x then y else x) :: st) μ) : J l M Z G k n pc ls (.int y :: .int x :: st) μ := by
  intro p e s m args below meth c D cA ad0 ad A b H locs sl ok ex hAD hcs hR hL
  subst hq
  have W1 := ok.2.2.2.2.2.1
  exact va_mmin ok.1 ok.2.1 (ok.2.2.2.1.trans hL.1.symm) ok.2.2.2.2.1 (W1 _ hw.1) (W1 _ hw.2.1) (W1 _ hw.2.2.1) (W1 _ hw.2.2.2) hroom.1 (hroom.2 ad b) hcs.1 hcs.2 hd (K p e s m args below meth c D cA ad0 ad A b H locs sl ok ex hAD hcs hR hL)
theorem j_max {x y : Int32} (hd : decode M.2.1 pc = .ok (.invokestatic idx, 3)) (hq : pc + 3 = q) (hw : Cond.methodLink M.1.cls idx Lib.Math.max.name ∈ jtbl ∧ Cond.static Lib.Math.max.name ∈ jtbl ∧ Cond.initialized "java/lang/Math" ∈ jtbl ∧ Cond.code Lib.Math.max.name Lib.Math.max.code 2 (some .int) ∈ jtbl) (hroom : 1 ≤ Z.1.frames ∧ ∀ ad b, ((st.map (jtr ad b)).map fun v => v.category).sum + 13 ≤ Z.1.locals) (K : J l M Z G k n q ls (.int (if x < y then y else x) :: st) μ) : J l M Z G k n pc ls (.int y :: .int x :: st) μ := by
  intro p e s m args below meth c D cA ad0 ad A b H locs sl ok ex hAD hcs hR hL
  subst hq
  have W1 := ok.2.2.2.2.2.1
  exact va_mmax ok.1 ok.2.1 (ok.2.2.2.1.trans hL.1.symm) ok.2.2.2.2.1 (W1 _ hw.1) (W1 _ hw.2.1) (W1 _ hw.2.2.1) (W1 _ hw.2.2.2) hroom.1 (hroom.2 ad b) hcs.1 hcs.2 hd (K p e s m args below meth c D cA ad0 ad A b H locs sl ok ex hAD hcs hR hL)
theorem sI_E {cA : Nat → ClassId} {ad : Nat → Nat} {μ : jM} {a N : Nat} {f : Nat → Int32} : (.inl (cA 0, N, .inl f) : va_E) = jE cA ad (sI μ a f) a (0, N) := by simp [jE, jA, sI]
/-- System.arraycopy of ints -/
theorem j_copy {a a0 N N0 : Nat} {sp dp len : Int32} (hd : decode M.2.1 pc = .ok (.invokestatic idx, 3)) (hq : pc + 3 = q) (hw : Cond.methodLink M.1.cls idx arraycopyName ∈ jtbl ∧ Cond.native arraycopyName ∈ jtbl ∧ Cond.static arraycopyName ∈ jtbl ∧ Cond.initialized "java/lang/System" ∈ jtbl) (hG0 : G[a0]? = some (0, N0)) (hG : G[a]? = some (0, N))
    (h1 : ¬ sp < 0) (h2 : ¬ dp < 0) (h3 : ¬ len < 0) (h4 : sp.toNatClampNeg + len.toNatClampNeg ≤ N0) (h5 : dp.toNatClampNeg + len.toNatClampNeg ≤ N) (hroom : 1 ≤ Z.1.frames ∧ ∀ ad b, ((st.map (jtr ad b)).map fun v => v.category).sum + (nativeFrameWords "java/lang/System" "arraycopy" 5 + 11) ≤ Z.1.locals)
    (K : J l M Z G k n q ls st (sI μ a (va_cpy (μ.1 a0) (μ.1 a) sp.toNatClampNeg dp.toNatClampNeg len.toNatClampNeg))) : J l M Z G k n pc ls (.int len :: .int dp :: .ref a :: .int sp :: .ref a0 :: st) μ := by
  intro p e s m args below meth c D cA ad0 ad A b H locs sl ok ex hAD hcs hR hL
  subst hq
  have W1 := ok.2.2.2.2.2.1
  refine va_copyi ok.1 ok.2.1 (ok.2.2.2.1.trans hL.1.symm) ok.2.2.2.2.1 (W1 _ hw.1) (W1 _ hw.2.1) (W1 _ hw.2.2.1) (W1 _ hw.2.2.2) hR.2.1.1 hR.2.2.1 hR.2.2.2.1 hR.2.2.2.2 a0 a 0 0 (ty := .int) (jW_get hG0) (jW_get hG) rfl rfl rfl h1 h2 h3 h4 h5 (fun _ _ => rfl) hroom.1 (hroom.2 ad b) hd (fun H1 locs1 h1 h2 h3 => ?_)
  rw [jW_set hG sI_off sI_E] at h1 h2
  exact K p e s m args below meth c D cA ad0 ad A b H1 locs1 sl ok ex hAD hcs ⟨hR.1, hR.2.1, h1, h2, h3⟩ hL
end JInvA
