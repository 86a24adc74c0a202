/-! THE STRING: the literal of Tokens' words; length, charAt -/
def strT : String := "place road field gate ghost owes fears bears fog lamp seed if then else kind carries every foggy rate hours wear which night"
def strB : List Int32 := [112, 108, 97, 99, 101, 32, 114, 111, 97, 100, 32, 102, 105, 101, 108, 100, 32, 103, 97, 116, 101, 32, 103, 104, 111, 115, 116, 32, 111, 119, 101, 115, 32, 102, 101, 97, 114, 115, 32, 98, 101, 97, 114, 115, 32, 102, 111, 103, 32, 108, 97, 109, 112, 32, 115, 101, 101, 100, 32, 105, 102, 32, 116, 104, 101, 110, 32, 101, 108, 115, 101, 32, 107, 105, 110, 100, 32, 99, 97, 114, 114, 105, 101, 115, 32, 101, 118, 101, 114, 121, 32, 102, 111, 103, 103, 121, 32, 114, 97, 116, 101, 32, 104, 111, 117, 114, 115, 32, 119, 101, 97, 114, 32, 119, 104, 105, 99, 104, 32, 110, 105, 103, 104, 116]
def sN : Nat → Prop := fun _ => False
def sF (A : Nat → Prop) (q v : Nat) (f : Value) (U : State) (H : Heap) : Prop := vk_S 1 [124] [strB] (fun _ => q) (fun _ => v) A U H ∧ va_Z "java/lang/String" "COMPACT_STRINGS" "Z" (.int 1) A U H ∧ va_Z "jdk/internal/util/Preconditions" "SIOOBE_FORMATTER" "Ljava/util/function/BiFunction;" f A U H ∧ (f = .null ∨ ∃ t, f = .ref t)
theorem sF_mv {A : Nat → Prop} {q v : Nat} {f : Value} {u U : State} {H : Heap} (hvm : u.vm.Alike U.vm) (h : sF A q v f u H) : sF A q v f U H := ⟨vk_S.moved hvm h.1, va_Z.moved hvm h.2.1, va_Z.moved hvm h.2.2.1, h.2.2.2⟩
theorem sF_kp {A : Nat → Prop} {q v : Nat} {f : Value} {U : State} {H H1 : Heap} (h : sF A q v f U H) (hq : ∀ a : Nat, a < H.size → ¬ A a → H1[a]? = H[a]?) : sF A q v f U H1 := ⟨h.1.kept hq, h.2.1.kept hq, h.2.2.1.kept hq, h.2.2.2⟩
theorem va_Znar {C n d : String} {v : Value} {A B : Nat → Prop} {U : State} {H : Heap} (h : va_Z C n d v A U H) (hAB : ∀ q, q < H.size → B q → A q) : va_Z C n d v B U H := by
  obtain ⟨cf, kf, fi, f, a, cell, h1, h2, h3, h4, h5, h6, h7, h8⟩ := h
  exact ⟨cf, kf, fi, f, a, cell, h1, h2, h3, h4, h5, h6, h7, fun z => h8 (hAB a (Array.getElem?_eq_some_iff.mp h5).1 z)⟩
theorem va_Onar {E : String} {t : Nat} {A B : Nat → Prop} {U : State} {H : Heap} (h : va_O E t A U H) (hAB : ∀ q, q < H.size → B q → A q) : va_O E t B U H := by
  obtain ⟨cell, h1, h2, h3, h4⟩ := h
  exact ⟨cell, h1, h2, h3, fun z => h4 (hAB t (Array.getElem?_eq_some_iff.mp h1).1 z)⟩
theorem va_OFnar {o n d : String} {v : Value} {t : Nat} {A B : Nat → Prop} {U : State} {H : Heap} (h : va_OF o n d v t A U H) (hAB : ∀ q, q < H.size → B q → A q) : va_OF o n d v t B U H := by
  obtain ⟨cf, k, i, f, cell, h1, h2, h3, h4, h5, h6⟩ := h
  exact ⟨cf, k, i, f, cell, h1, h2, h3, h4, h5, fun z => h6 (hAB t (Array.getElem?_eq_some_iff.mp h3).1 z)⟩
theorem va_Tnar {ty : FieldType} {t N : Nat} {f : Nat → Value} {A B : Nat → Prop} {U : State} {H : Heap} (h : va_T ty t N f A U H) (hAB : ∀ q, q < H.size → B q → A q) : va_T ty t N f B U H := by
  obtain ⟨cell, h1, h2, h3, h4, h5, h6, h7⟩ := h
  exact ⟨cell, h1, h2, h3, h4, h5, h6, fun z => h7 (hAB t (Array.getElem?_eq_some_iff.mp h1).1 z)⟩
theorem sF_nr {A B : Nat → Prop} {q v : Nat} {f : Value} {U : State} {H : Heap} (h : sF A q v f U H) (hAB : ∀ q, q < H.size → B q → A q) : sF B q v f U H :=
  ⟨⟨fun i hi => ⟨va_Onar (h.1.1 i hi).1 hAB, va_OFnar (h.1.1 i hi).2.1 hAB, va_OFnar (h.1.1 i hi).2.2.1 hAB, va_Tnar (h.1.1 i hi).2.2.2 hAB⟩, h.1.2⟩, va_Znar h.2.1 hAB, va_Znar h.2.2.1 hAB, h.2.2.2⟩
/-- what the start gives of the string -/
def sX : jEX := fun _ s A _ => ∃ q v f, vk_R "GhostPike$Tokens" 25 strT q s ∧ sF A q v f s s.heap
theorem sX_ok : jXs sX := fun a a' U V A A' b h hW hz hk hA => by
  obtain ⟨q, v, f, h1, h2⟩ := h
  refine ⟨q, v, f, h1.warm hW, ?_⟩
  have h3 := sF_nr (B := fun q => A q ∨ U.heap.size ≤ q) (sF_mv hW.alike h2) (fun q h4 h5 => by rcases h5 with h5 | h5; exact h5; omega)
  have h4 := sF_kp (H1 := V.heap) h3 (fun q h5 h6 => hk q h5 (fun z => h6 (Or.inl z)))
  exact sF_nr h4 (fun q _ h6 => by
    by_cases h7 : q < U.heap.size
    · exact Or.inl (hA q h7 h6)
    · exact Or.inr (by omega))
/-! the JDK's methods -/
def sQ (r : Option Value) : Array Value → State → Outcome → State → Prop := fun _ st oc t => oc = .returned r ∧ va_F sN st t
def stC (l : Launch) (M : jMt) (d : Nat) (as : List Value) (r : Option Value) (q v : Nat) (f : Value) : Prop := Met l M.1 (jws M) (jrm d 0 0) (va_Pc as (fun U => sF sN q v f U U.heap)) (sQ r) 0 0 sN
theorem stC_mk {l : Launch} {M : jMt} {d : Nat} {as : List Value} {r : Option Value} {q v : Nat} {f : Value} (hy : plainName M.1.cls = true) (hlen : (lg_sl as).length ≤ M.2.2.1)
    (h : ∀ (p : Program) (e : Env) (s : State) (m : MethodId) (args : Array Value) (below : List Frame) (meth : Method) (c : Code) (sl : Array Slot), jOK M p s m args meth c → sF sN q v f s s.heap → lv_has sl M.2.2.1 (lv_args 0 as) → W p l e (jrm d 0 0) s m args below meth c s.heap [] 0 0 (MQ below (sQ r) args s 0 0 sN) (F0 m 0 sl [])) : stC l M d as r q v f := by
  refine Met.ofW (cc := M.2.1) (maxL := M.2.2.1) (ret := M.2.2.2) hy rfl ?_
  intro p e s m args below meth c s₁ B hml hv
  obtain ⟨rfl, hF⟩ := hv
  have hts := atoms_spec (ws := jws M) B.pre
  have hown : s.vm.findClass M.1.cls = some m.cls := findClass_of_methodNamed B.named
  have hin : meth.name = M.1.name := (name_of_methodNamed B.named B.method).1
  have hl := lv_entry as (n := M.2.2.1) hlen
  rw [lg_entry_eq]
  exact h p e s m _ below meth c _ ⟨B.exec, B.bytes, B.returns, hml, hown, fun w hw => hts w (List.mem_cons_of_mem _ hw), B.notSynchronized, fun z => hin.trans z⟩ hF hl
theorem sF_blind {as : List Value} {q v : Nat} {f : Value} : FrameBlind (va_Pc as (fun U => sF sN q v f U U.heap)) := fun a U g mk h => ⟨h.1, sF_mv (u := U) (U := U.calling g mk a) (Vm.Alike.refl U.vm) h.2⟩
section SCall
variable {p : Program} {l : Launch} {e : Env} {R : Room} {s : State} {m : MethodId} {args : Array Value} {below : List Frame} {meth : Method} {c : Code} {H : Heap} {locs : List Loc} {cells slots : Nat} {Q : State → Prop}
variable {M M' : jMt} {A : Nat → Prop} {q v d' na idx pc : Nat} {f : Value} {as rest : List Value} {r : Option Value} {sl : Array Slot}
theorem sF_at (hF : sF A q v f s s.heap) (hS : va_S A s.heap H locs) {U : State} (hU : U.heap = H) (hW : s.WarmedH U.vm) : sF sN q v f U U.heap := by
  rw [hU]
  exact sF_nr (sF_kp (sF_mv hW.alike hF) hS.2.1) (fun _ _ h => h.elim)
theorem s_cont {a : Array Value} {st0 : List Value} (hS : va_S A s.heap H locs)
    (hr : va_Run p l e R s m args below meth c H locs cells slots 0 0 (F0 m pc sl st0) rest (sQ r a) sN)
    (K : ∀ (H1 : Heap) (locs1 : List Loc), va_S A s.heap H1 locs1 → (∀ x : Nat, x < H.size → H1[x]? = H[x]?) → W p l e R s m args below meth c H1 locs1 cells slots Q (F0 m (pc + 3) sl (r.toList ++ rest))) : W p l e R s m args below meth c H locs cells slots Q (F0 m pc sl st0) := by
  intro T hT X
  obtain ⟨v', st₀, t, T', L, h0, X', hLf, e1, e2, ⟨hv, hz, hk⟩, stp⟩ := hr T hT X
  cases hv
  rw [h0] at hz hk
  have hk' : ∀ x : Nat, x < H.size → T'.heap[x]? = H[x]? := fun x hx => by rw [e1]; exact hk x hx (fun z => z.elim)
  have hS1 : va_S A s.heap T'.heap (locs ++ L) := by
    refine ⟨Nat.le_trans hS.1 (by rw [e1]; exact hz), fun x h1 h2 => ?_, fun x hx => ?_⟩
    · rw [hk' x (Nat.lt_of_lt_of_le h1 hS.1)]
      exact hS.2.1 x h1 h2
    · rcases List.mem_append.mp hx with h | h
      · exact hS.2.2 x h
      · exact (hLf x h).elim
  obtain ⟨t2, a1, b1⟩ := K T'.heap (locs ++ L) hS1 hk' T' rfl X'
  exact ⟨t2, stp t2 a1, b1⟩
theorem s_cV (ok : jOK M p s m args meth c) (hF : sF A q v f s s.heap) (hS : va_S A s.heap H locs) (hw : jVw M.1.cls idx M' na) (hcl : M'.1.cls = "java/lang/String") (hroom : d' + 1 ≤ R.frames ∧ 8 + (M'.2.2.1 + 11) + 40 * d' ≤ R.locals) (hna : as.length = na) (hsz : sl.size = M.2.2.1) (hrest : (rest.map fun v => v.category).sum ≤ 8) (hcs : cells ≤ R.cells ∧ slots ≤ R.slots) (hc : stC l M' d' (.ref q :: as) r q v f) (hd : decode M.2.1 pc = .ok (.invokevirtual idx, 3))
    (K : ∀ (H1 : Heap) (locs1 : List Loc), va_S A s.heap H1 locs1 → (∀ x : Nat, x < H.size → H1[x]? = H[x]?) → W p l e R s m args below meth c H1 locs1 cells slots Q (F0 m (pc + 3) sl (r.toList ++ rest))) : W p l e R s m args below meth c H locs cells slots Q (F0 m pc sl (as.reverse ++ .ref q :: rest)) :=
  s_cont hS (va_runV (As := as) (rest := rest) (b := q) (C := M'.1.cls) (n := na) ⟨ok.1, ok.2.1, ok.2.2.2.1, ok.2.2.2.2.1, ok.2.2.2.2.2.1⟩ hc ⟨j_callB ok hw.1.1 hw.2 hroom, ok.2.2.2.2.2.1 _ hw.1.2.1, ok.2.2.2.2.2.1 _ hw.1.2.2⟩ ⟨sF_blind, by rw [hcl]; exact vk_recv (i := 0) hF.1 (by decide) hS, fun U hU hW => ⟨rfl, sF_at hF hS hU hW⟩⟩ rfl hna hsz rfl (lv_room hrest) hd hcs) K
theorem s_cS (ok : jOK M p s m args meth c) (hF : sF A q v f s s.heap) (hS : va_S A s.heap H locs) (hw : jSw M.1.cls idx M' na) (hroom : d' + 1 ≤ R.frames ∧ 8 + (M'.2.2.1 + 11) + 40 * d' ≤ R.locals) (hna : as.length = na) (hsz : sl.size = M.2.2.1) (hrest : (rest.map fun v => v.category).sum ≤ 8) (hcs : cells ≤ R.cells ∧ slots ≤ R.slots) (hc : stC l M' d' as r q v f) (hd : decode M.2.1 pc = .ok (.invokestatic idx, 3))
    (K : ∀ (H1 : Heap) (locs1 : List Loc), va_S A s.heap H1 locs1 → (∀ x : Nat, x < H.size → H1[x]? = H[x]?) → W p l e R s m args below meth c H1 locs1 cells slots Q (F0 m (pc + 3) sl (r.toList ++ rest))) : W p l e R s m args below meth c H locs cells slots Q (F0 m pc sl (as.reverse ++ rest)) :=
  s_cont hS (va_runS (As := as) (rest := rest) (n := na) ⟨ok.1, ok.2.1, ok.2.2.2.1, ok.2.2.2.2.1, ok.2.2.2.2.2.1⟩ hc ⟨j_callB ok hw.1.1 hw.2 hroom, ok.2.2.2.2.2.1 _ hw.1.2⟩ ⟨sF_blind, fun U hU hW => ⟨rfl, sF_at hF hS hU hW⟩⟩ rfl hna hsz rfl (lv_room hrest) hd hcs) K
end SCall
/-! words and decode rows -/
set_option maxRecDepth 100000 in
theorem fl_JS_38 : Cond.fieldLink "java/lang/String" 38 "java/lang/String" "COMPACT_STRINGS" "Z" ∈ jtbl := jtbl_of (tb_1 _ (List.mem_of_getElem? (i := 68) rfl)) rfl
set_option maxRecDepth 100000 in
theorem fl_JS_1053 : Cond.fieldLink "java/lang/String" 1053 "jdk/internal/util/Preconditions" "SIOOBE_FORMATTER" "Ljava/util/function/BiFunction;" ∈ jtbl := jtbl_of (tb_1 _ (List.mem_of_getElem? (i := 84) rfl)) rfl
set_option maxRecDepth 100000 in
theorem fl_JS_9 : Cond.fieldLink "java/lang/String" 9 "java/lang/String" "value" "[B" ∈ jtbl := jtbl_of (tq_8 _ (List.mem_of_getElem? (i := 190) rfl)) rfl
set_option maxRecDepth 100000 in
theorem fl_JS_15 : Cond.fieldLink "java/lang/String" 15 "java/lang/String" "coder" "B" ∈ jtbl := jtbl_of (tq_8 _ (List.mem_of_getElem? (i := 191) rfl)) rfl
set_option maxRecDepth 100000 in
theorem ml_JS_335 : Cond.methodLink "java/lang/String" 335 mJS_coder.1 ∈ jtbl := jtbl_of (tb_1 _ (List.mem_of_getElem? (i := 64) rfl)) rfl
theorem vw_JS_335 : jVw "java/lang/String" 335 mJS_coder 0 := ⟨⟨ml_JS_335, im_JS_coder, se_JS_coder⟩, mw_JS_coder⟩
set_option maxRecDepth 100000 in
theorem ml_JS_492 : Cond.methodLink "java/lang/String" 492 mJS_isLatin1.1 ∈ jtbl := jtbl_of (tb_1 _ (List.mem_of_getElem? (i := 74) rfl)) rfl
theorem vw_JS_492 : jVw "java/lang/String" 492 mJS_isLatin1 0 := ⟨⟨ml_JS_492, im_JS_isLatin1, se_JS_isLatin1⟩, mw_JS_isLatin1⟩
set_option maxRecDepth 100000 in
theorem ml_JS_495 : Cond.methodLink "java/lang/String" 495 mJL_charAt.1 ∈ jtbl := jtbl_of (tb_1 _ (List.mem_of_getElem? (i := 78) rfl)) rfl
theorem vw_JS_495 : jSw "java/lang/String" 495 mJL_charAt 2 := ⟨⟨ml_JS_495, sm_JL_charAt⟩, mw_JL_charAt⟩
set_option maxRecDepth 100000 in
theorem ml_JL_9 : Cond.methodLink "java/lang/StringLatin1" 9 mJS_checkIndex.1 ∈ jtbl := jtbl_of (tb_1 _ (List.mem_of_getElem? (i := 81) rfl)) rfl
theorem vw_JL_9 : jSw "java/lang/StringLatin1" 9 mJS_checkIndex 2 := ⟨⟨ml_JL_9, sm_JS_checkIndex⟩, mw_JS_checkIndex⟩
set_option maxRecDepth 100000 in
theorem ml_JS_1059 : Cond.methodLink "java/lang/String" 1059 mJP_checkIndex.1 ∈ jtbl := jtbl_of (tb_1 _ (List.mem_of_getElem? (i := 86) rfl)) rfl
theorem vw_JS_1059 : jSw "java/lang/String" 1059 mJP_checkIndex 3 := ⟨⟨ml_JS_1059, sm_JP_checkIndex⟩, mw_JP_checkIndex⟩
theorem dJS_coder_0 : decode mJS_coder.2.1 0 = .ok (.getstatic 38, 3) := by decide +kernel
theorem dJS_coder_3 : decode mJS_coder.2.1 3 = .ok (.ifCond .eq 10, 3) := by decide +kernel
theorem dJS_coder_6 : decode mJS_coder.2.1 6 = .ok (.aload_n 0, 1) := by decide +kernel
theorem dJS_coder_7 : decode mJS_coder.2.1 7 = .ok (.getfield 15, 3) := by decide +kernel
theorem dJS_coder_10 : decode mJS_coder.2.1 10 = .ok (.goto 4, 3) := by decide +kernel
theorem dJS_coder_14 : decode mJS_coder.2.1 14 = .ok (.ireturn, 1) := by decide +kernel
theorem dJS_isLatin1_0 : decode mJS_isLatin1.2.1 0 = .ok (.getstatic 38, 3) := by decide +kernel
theorem dJS_isLatin1_3 : decode mJS_isLatin1.2.1 3 = .ok (.ifCond .eq 14, 3) := by decide +kernel
theorem dJS_isLatin1_6 : decode mJS_isLatin1.2.1 6 = .ok (.aload_n 0, 1) := by decide +kernel
theorem dJS_isLatin1_7 : decode mJS_isLatin1.2.1 7 = .ok (.getfield 15, 3) := by decide +kernel
theorem dJS_isLatin1_10 : decode mJS_isLatin1.2.1 10 = .ok (.ifCond .ne 7, 3) := by decide +kernel
theorem dJS_isLatin1_13 : decode mJS_isLatin1.2.1 13 = .ok (.iconst 1, 1) := by decide +kernel
theorem dJS_isLatin1_14 : decode mJS_isLatin1.2.1 14 = .ok (.goto 4, 3) := by decide +kernel
theorem dJS_isLatin1_18 : decode mJS_isLatin1.2.1 18 = .ok (.ireturn, 1) := by decide +kernel
theorem dJS_length_0 : decode mJS_length.2.1 0 = .ok (.aload_n 0, 1) := by decide +kernel
theorem dJS_length_1 : decode mJS_length.2.1 1 = .ok (.getfield 9, 3) := by decide +kernel
theorem dJS_length_4 : decode mJS_length.2.1 4 = .ok (.arraylength, 1) := by decide +kernel
theorem dJS_length_5 : decode mJS_length.2.1 5 = .ok (.aload_n 0, 1) := by decide +kernel
theorem dJS_length_6 : decode mJS_length.2.1 6 = .ok (.invokevirtual 335, 3) := by decide +kernel
theorem dJS_length_9 : decode mJS_length.2.1 9 = .ok (.ishr, 1) := by decide +kernel
theorem dJS_length_10 : decode mJS_length.2.1 10 = .ok (.ireturn, 1) := by decide +kernel
theorem dJP_checkIndex_0 : decode mJP_checkIndex.2.1 0 = .ok (.iload_n 0, 1) := by decide +kernel
theorem dJP_checkIndex_1 : decode mJP_checkIndex.2.1 1 = .ok (.ifCond .lt 8, 3) := by decide +kernel
theorem dJP_checkIndex_4 : decode mJP_checkIndex.2.1 4 = .ok (.iload_n 0, 1) := by decide +kernel
theorem dJP_checkIndex_5 : decode mJP_checkIndex.2.1 5 = .ok (.iload_n 1, 1) := by decide +kernel
theorem dJP_checkIndex_6 : decode mJP_checkIndex.2.1 6 = .ok (.if_icmp .lt 10, 3) := by decide +kernel
theorem dJP_checkIndex_16 : decode mJP_checkIndex.2.1 16 = .ok (.iload_n 0, 1) := by decide +kernel
theorem dJP_checkIndex_17 : decode mJP_checkIndex.2.1 17 = .ok (.ireturn, 1) := by decide +kernel
theorem dJS_checkIndex_0 : decode mJS_checkIndex.2.1 0 = .ok (.iload_n 0, 1) := by decide +kernel
theorem dJS_checkIndex_1 : decode mJS_checkIndex.2.1 1 = .ok (.iload_n 1, 1) := by decide +kernel
theorem dJS_checkIndex_2 : decode mJS_checkIndex.2.1 2 = .ok (.getstatic 1053, 3) := by decide +kernel
theorem dJS_checkIndex_5 : decode mJS_checkIndex.2.1 5 = .ok (.invokestatic 1059, 3) := by decide +kernel
theorem dJS_checkIndex_8 : decode mJS_checkIndex.2.1 8 = .ok (.pop, 1) := by decide +kernel
theorem dJS_checkIndex_9 : decode mJS_checkIndex.2.1 9 = .ok (.return_, 1) := by decide +kernel
theorem dJL_charAt_0 : decode mJL_charAt.2.1 0 = .ok (.iload_n 1, 1) := by decide +kernel
theorem dJL_charAt_1 : decode mJL_charAt.2.1 1 = .ok (.aload_n 0, 1) := by decide +kernel
theorem dJL_charAt_2 : decode mJL_charAt.2.1 2 = .ok (.arraylength, 1) := by decide +kernel
theorem dJL_charAt_3 : decode mJL_charAt.2.1 3 = .ok (.invokestatic 9, 3) := by decide +kernel
theorem dJL_charAt_6 : decode mJL_charAt.2.1 6 = .ok (.aload_n 0, 1) := by decide +kernel
theorem dJL_charAt_7 : decode mJL_charAt.2.1 7 = .ok (.iload_n 1, 1) := by decide +kernel
theorem dJL_charAt_8 : decode mJL_charAt.2.1 8 = .ok (.baload, 1) := by decide +kernel
theorem dJL_charAt_9 : decode mJL_charAt.2.1 9 = .ok (.sipush 255, 3) := by decide +kernel
theorem dJL_charAt_12 : decode mJL_charAt.2.1 12 = .ok (.iand, 1) := by decide +kernel
theorem dJL_charAt_13 : decode mJL_charAt.2.1 13 = .ok (.i2c, 1) := by decide +kernel
theorem dJL_charAt_14 : decode mJL_charAt.2.1 14 = .ok (.ireturn, 1) := by decide +kernel
theorem dJS_charAt_0 : decode mJS_charAt.2.1 0 = .ok (.aload_n 0, 1) := by decide +kernel
theorem dJS_charAt_1 : decode mJS_charAt.2.1 1 = .ok (.invokevirtual 492, 3) := by decide +kernel
theorem dJS_charAt_4 : decode mJS_charAt.2.1 4 = .ok (.ifCond .eq 12, 3) := by decide +kernel
theorem dJS_charAt_7 : decode mJS_charAt.2.1 7 = .ok (.aload_n 0, 1) := by decide +kernel
theorem dJS_charAt_8 : decode mJS_charAt.2.1 8 = .ok (.getfield 9, 3) := by decide +kernel
theorem dJS_charAt_11 : decode mJS_charAt.2.1 11 = .ok (.iload_n 1, 1) := by decide +kernel
theorem dJS_charAt_12 : decode mJS_charAt.2.1 12 = .ok (.invokestatic 495, 3) := by decide +kernel
theorem dJS_charAt_15 : decode mJS_charAt.2.1 15 = .ok (.ireturn, 1) := by decide +kernel
section SMeth
variable {l : Launch} {q v : Nat} {f : Value}
theorem s_coder : stC l mJS_coder 0 [.ref q] (some (.int 0)) q v f := by
  refine stC_mk (by decide) (Nat.le_of_ble_eq_true rfl) ?_
  intro p e s m args below meth c sl ok hF hl
  have hS : va_S sN s.heap s.heap [] := va_S.rf
  have hlocks := ok.2.2.2.2.2.2.1
  refine va_gets ok.1 ok.2.1 hF.2.1 hS ok.2.2.2.2.1 (ok.2.2.2.2.2.1 _ fl_JS_38) (fun _ h => h) dJS_coder_0 ?_
  refine lv_if_eq ok.1 ok.2.1 (tgt := 13) dJS_coder_3 (by decide) (fun h => absurd h (by decide)) (fun _ => ?_)
  refine lv_aload_n ok.1 ok.2.1 dJS_coder_6 rfl (lv_at hl 0 rfl) ?_
  refine vk_getf ok.1 ok.2.1 (hF.1.1 0 (by decide)).2.1 hS ok.2.2.2.2.1 (ok.2.2.2.2.2.1 _ fl_JS_15) (fun _ h => h) dJS_coder_7 ?_
  refine lv_goto ok.1 ok.2.1 (tgt := 14) dJS_coder_10 (by decide) ?_
  exact W.zret (v := 0) ok.1 ok.2.1 ok.2.2.1 (by decide) (fun t ht hW => ⟨rfl, hS.F ht⟩) hS.2.2 dJS_coder_14
theorem s_isLatin1 : stC l mJS_isLatin1 0 [.ref q] (some (.int 1)) q v f := by
  refine stC_mk (by decide) (Nat.le_of_ble_eq_true rfl) ?_
  intro p e s m args below meth c sl ok hF hl
  have hS : va_S sN s.heap s.heap [] := va_S.rf
  have hlocks := ok.2.2.2.2.2.2.1
  refine va_gets ok.1 ok.2.1 hF.2.1 hS ok.2.2.2.2.1 (ok.2.2.2.2.2.1 _ fl_JS_38) (fun _ h => h) dJS_isLatin1_0 ?_
  refine lv_if_eq ok.1 ok.2.1 (tgt := 17) dJS_isLatin1_3 (by decide) (fun h => absurd h (by decide)) (fun _ => ?_)
  refine lv_aload_n ok.1 ok.2.1 dJS_isLatin1_6 rfl (lv_at hl 0 rfl) ?_
  refine vk_getf ok.1 ok.2.1 (hF.1.1 0 (by decide)).2.1 hS ok.2.2.2.2.1 (ok.2.2.2.2.2.1 _ fl_JS_15) (fun _ h => h) dJS_isLatin1_7 ?_
  refine lv_if_ne ok.1 ok.2.1 (tgt := 17) dJS_isLatin1_10 (by decide) (fun h => absurd rfl h) (fun _ => ?_)
  refine lv_iconst ok.1 ok.2.1 (v := 1) dJS_isLatin1_13 (by decide) ?_
  refine lv_goto ok.1 ok.2.1 (tgt := 18) dJS_isLatin1_14 (by decide) ?_
  exact W.zret (v := 1) ok.1 ok.2.1 ok.2.2.1 (by decide) (fun t ht hW => ⟨rfl, hS.F ht⟩) hS.2.2 dJS_isLatin1_18
theorem s_length : stC l mJS_length 1 [.ref q] (some (.int 124)) q v f := by
  refine stC_mk (by decide) (Nat.le_of_ble_eq_true rfl) ?_
  intro p e s m args below meth c sl ok hF hl
  have hS : va_S sN s.heap s.heap [] := va_S.rf
  have hlocks := ok.2.2.2.2.2.2.1
  refine lv_aload_n ok.1 ok.2.1 dJS_length_0 rfl (lv_at hl 0 rfl) ?_
  refine vk_getf ok.1 ok.2.1 (hF.1.1 0 (by decide)).2.2.1 hS ok.2.2.2.2.1 (ok.2.2.2.2.2.1 _ fl_JS_9) (fun _ h => h) dJS_length_1 ?_
  refine va_tlen ok.1 ok.2.1 (hF.1.1 0 (by decide)).2.2.2 hS (v := 124) (by decide) dJS_length_4 ?_
  refine lv_aload_n ok.1 ok.2.1 dJS_length_5 rfl (lv_at hl 0 rfl) ?_
  refine s_cV (as := []) (rest := [.int 124]) (d' := 0) ok hF hS vw_JS_335 rfl ⟨by decide, by decide⟩ rfl hl.1 (by decide) ⟨Nat.le_refl _, Nat.le_refl _⟩ s_coder dJS_length_6 (fun H1 locs1 hS1 _ => ?_)
  refine lv_ishr ok.1 ok.2.1 dJS_length_9 ?_
  exact W.iret (v := 124) ok.1 ok.2.1 ok.2.2.1 (fun t ht hW => ⟨rfl, hS1.F ht⟩) hS1.2.2 dJS_length_10
theorem s_checkP {i n : Int32} (hf : f = .null ∨ ∃ t, f = .ref t) (h0 : ¬ i < 0) (h1 : i < n) : stC l mJP_checkIndex 0 [.int i, .int n, f] (some (.int i)) q v f := by
  refine stC_mk (by decide) (by rcases hf with rfl | ⟨t, rfl⟩ <;> exact Nat.le_of_ble_eq_true rfl) ?_
  intro p e s m args below meth c sl ok hF hl
  have hS : va_S sN s.heap s.heap [] := va_S.rf
  have hlocks := ok.2.2.2.2.2.2.1
  refine lv_iload_n ok.1 ok.2.1 dJP_checkIndex_0 rfl (lv_at hl 0 rfl) ?_
  refine lv_if_lt ok.1 ok.2.1 (tgt := 9) dJP_checkIndex_1 (by decide) (fun h => absurd h h0) (fun _ => ?_)
  refine lv_iload_n ok.1 ok.2.1 dJP_checkIndex_4 rfl (lv_at hl 0 rfl) ?_
  refine lv_iload_n ok.1 ok.2.1 dJP_checkIndex_5 rfl (lv_at hl 1 rfl) ?_
  refine lv_icmp_lt ok.1 ok.2.1 (tgt := 16) dJP_checkIndex_6 (by decide) (fun _ => ?_) (fun h => absurd h1 h)
  refine lv_iload_n ok.1 ok.2.1 dJP_checkIndex_16 rfl (lv_at hl 0 rfl) ?_
  exact W.iret (v := i) ok.1 ok.2.1 ok.2.2.1 (fun t ht hW => ⟨rfl, hS.F ht⟩) hS.2.2 dJP_checkIndex_17
theorem s_checkS {i n : Int32} (h0 : ¬ i < 0) (h1 : i < n) : stC l mJS_checkIndex 1 [.int i, .int n] none q v f := by
  refine stC_mk (by decide) (Nat.le_of_ble_eq_true rfl) ?_
  intro p e s m args below meth c sl ok hF hl
  have hS : va_S sN s.heap s.heap [] := va_S.rf
  have hlocks := ok.2.2.2.2.2.2.1
  refine lv_iload_n ok.1 ok.2.1 dJS_checkIndex_0 rfl (lv_at hl 0 rfl) ?_
  refine lv_iload_n ok.1 ok.2.1 dJS_checkIndex_1 rfl (lv_at hl 1 rfl) ?_
  refine va_gets ok.1 ok.2.1 hF.2.2.1 hS ok.2.2.2.2.1 (ok.2.2.2.2.2.1 _ fl_JS_1053) (fun _ h => h) dJS_checkIndex_2 ?_
  refine s_cS (as := [.int i, .int n, f]) (rest := []) (d' := 0) ok hF hS vw_JS_1059 ⟨by decide, by decide⟩ rfl hl.1 (by decide) ⟨Nat.le_refl _, Nat.le_refl _⟩ (s_checkP hF.2.2.2 h0 h1) dJS_checkIndex_5 (fun H1 locs1 hS1 _ => ?_)
  refine lv_pop ok.1 ok.2.1 dJS_checkIndex_8 rfl ?_
  exact W.vret ok.1 ok.2.1 ok.2.2.1 (fun t ht hW => ⟨rfl, hS1.F ht⟩) hS1.2.2 dJS_checkIndex_9
theorem strB_c : ∀ k, k < 124 → ((((strB.getD k 0) &&& 255).toUInt32 % 65536).toInt32 = strB.getD k 0 ∧ narrow .char (.int (strB.getD k 0)) = .int (strB.getD k 0)) := by decide +kernel
theorem s_charL {k : Nat} (hk : k < 124) : stC l mJL_charAt 2 [.ref v, .int (nI k)] (some (.int (strB.getD k 0))) q v f := by
  refine stC_mk (by decide) (Nat.le_of_ble_eq_true rfl) ?_
  intro p e s m args below meth c sl ok hF hl
  have hS : va_S sN s.heap s.heap [] := va_S.rf
  have hlocks := ok.2.2.2.2.2.2.1
  refine lv_iload_n ok.1 ok.2.1 dJL_charAt_0 rfl (lv_at hl 1 rfl) ?_
  refine lv_aload_n ok.1 ok.2.1 dJL_charAt_1 rfl (lv_at hl 0 rfl) ?_
  refine va_tlen ok.1 ok.2.1 (hF.1.1 0 (by decide)).2.2.2 hS (v := 124) (by decide) dJL_charAt_2 ?_
  refine s_cS (as := [.int (nI k), .int 124]) (rest := []) (d' := 1) ok hF hS vw_JL_9 ⟨by decide, by decide⟩ rfl hl.1 (by decide) ⟨Nat.le_refl _, Nat.le_refl _⟩ (s_checkS (nI_pos (by omega)) (nI_lt (b := 124) hk (by decide))) dJL_charAt_3 (fun H1 locs1 hS1 _ => ?_)
  refine lv_aload_n ok.1 ok.2.1 dJL_charAt_6 rfl (lv_at hl 0 rfl) ?_
  refine lv_iload_n ok.1 ok.2.1 dJL_charAt_7 rfl (lv_at hl 1 rfl) ?_
  refine va_tb ok.1 ok.2.1 (hF.1.1 0 (by decide)).2.2.2 hS1 (v := .int (strB.getD k 0)) (vp_in_nI hk (by decide)) (by rw [nI_clamp (by omega)]; rfl) dJL_charAt_8 ?_
  refine lv_sipush ok.1 ok.2.1 (v := 255) dJL_charAt_9 (by decide) ?_
  refine lv_iand ok.1 ok.2.1 dJL_charAt_12 ?_
  refine lv_i2c ok.1 ok.2.1 (v := strB.getD k 0) dJL_charAt_13 (strB_c k hk).1 ?_
  exact W.zret (v := strB.getD k 0) ok.1 ok.2.1 ok.2.2.1 (strB_c k hk).2 (fun t ht hW => ⟨rfl, hS1.F ht⟩) hS1.2.2 dJL_charAt_14
theorem s_charAt {k : Nat} (hk : k < 124) : stC l mJS_charAt 3 [.ref q, .int (nI k)] (some (.int (strB.getD k 0))) q v f := by
  refine stC_mk (by decide) (Nat.le_of_ble_eq_true rfl) ?_
  intro p e s m args below meth c sl ok hF hl
  have hS : va_S sN s.heap s.heap [] := va_S.rf
  have hlocks := ok.2.2.2.2.2.2.1
  refine lv_aload_n ok.1 ok.2.1 dJS_charAt_0 rfl (lv_at hl 0 rfl) ?_
  refine s_cV (as := []) (rest := []) (d' := 0) ok hF hS vw_JS_492 rfl ⟨by decide, by decide⟩ rfl hl.1 (by decide) ⟨Nat.le_refl _, Nat.le_refl _⟩ s_isLatin1 dJS_charAt_1 (fun H1 locs1 hS1 _ => ?_)
  refine lv_if_eq ok.1 ok.2.1 (tgt := 16) dJS_charAt_4 (by decide) (fun h => absurd h (by decide)) (fun _ => ?_)
  refine lv_aload_n ok.1 ok.2.1 dJS_charAt_7 rfl (lv_at hl 0 rfl) ?_
  refine vk_getf ok.1 ok.2.1 (hF.1.1 0 (by decide)).2.2.1 hS1 ok.2.2.2.2.1 (ok.2.2.2.2.2.1 _ fl_JS_9) (fun _ h => h) dJS_charAt_8 ?_
  refine lv_iload_n ok.1 ok.2.1 dJS_charAt_11 rfl (lv_at hl 1 rfl) ?_
  refine s_cS (as := [.ref v, .int (nI k)]) (rest := []) (d' := 2) ok hF hS1 vw_JS_495 ⟨by decide, by decide⟩ rfl hl.1 (by decide) ⟨Nat.le_refl _, Nat.le_refl _⟩ (s_charL hk) dJS_charAt_12 (fun H2 locs2 hS2 _ => ?_)
  exact W.zret (v := strB.getD k 0) ok.1 ok.2.1 ok.2.2.1 (strB_c k hk).2 (fun t ht hW => ⟨rfl, hS2.F ht⟩) hS2.2.2 dJS_charAt_15
end SMeth
/-! the rules of the small machine -/
section SJ
variable {l : Launch} {M : jMt} {Z : jZ} {G : jG} {k n pc q : Nat} {ls st : List Value} {μ : jM}
theorem jR_kept {cA : Nat → ClassId} {ad : Nat → Nat} {D : va_G} {A : Nat → Prop} {s : State} {H H1 : Heap} {locs locs1 : List Loc} (hR : jR G cA ad D A s H locs μ) (hS : va_S A s.heap H1 locs1) (hk : ∀ x : Nat, x < H.size → H1[x]? = H[x]?) : jR G cA ad D A s H1 locs1 μ :=
  ⟨hR.1, hR.2.1, hR.2.2.1.kept (fun i x hx => hk x.1 (hR.2.2.1 i x hx).lt), hR.2.2.2.1, hS⟩
theorem j_strLen (hM : M.1.cls = RX7) (hZX : ∀ a s A b, Z.2.2.1 a s A b → sX a s A b) (hd : decode M.2.1 pc = .ok (.ldc 25, 2)) (hd2 : decode M.2.1 (pc + 2) = .ok (.invokevirtual 27, 3)) (hq : pc + 2 + 3 = q) (hroom : 2 ≤ Z.1.frames ∧ 60 ≤ Z.1.locals) (hrest : ∀ ad b, ((st.map (jtr ad b)).map fun v => v.category).sum ≤ 8) (K : J l M Z G k n q ls (.int 124 :: st) μ) : J l M Z G k n pc ls st μ := by
  intro p e s m args below meth c D cA ad0 ad A b H locs sl ok ex hAD hcs hR hL
  obtain ⟨a, v, f, h1, hF⟩ := hZX _ _ _ _ ex
  subst hq
  refine va_ldcS ok.1 ok.2.1 ok.2.2.2.2.1 (by rw [hM]; exact h1) hd ?_
  refine s_cV (as := []) (rest := st.map (jtr ad b)) (d' := 1) ok hF hR.2.2.2.2 (by rw [hM]; exact vw_X7_27) rfl ⟨hroom.1, Nat.le_trans (by decide) hroom.2⟩ rfl hL.1 (hrest ad b) hcs s_length hd2 (fun H1 locs1 hS1 hk => ?_)
  exact K p e s m args below meth c D cA ad0 ad A b H1 locs1 sl ok ex hAD hcs (jR_kept hR hS1 hk) hL
theorem j_strAt {i : Nat} (hM : M.1.cls = RX7) (hZX : ∀ a s A b, Z.2.2.1 a s A b → sX a s A b) (hd : decode M.2.1 pc = .ok (.ldc 25, 2)) (hd1 : decode M.2.1 (pc + 2) = .ok (.iload_n 2, 1)) (hd2 : decode M.2.1 (pc + 2 + 1) = .ok (.invokevirtual 33, 3)) (hq : pc + 2 + 1 + 3 = q) (hl : ls[2]? = some (.int (nI i))) (hi : i < 124) (hroom : 4 ≤ Z.1.frames ∧ 150 ≤ Z.1.locals) (hrest : ∀ ad b, ((st.map (jtr ad b)).map fun v => v.category).sum ≤ 8) (K : J l M Z G k n q ls (.int (strB.getD i 0) :: st) μ) : J l M Z G k n pc ls st μ := by
  intro p e s m args below meth c D cA ad0 ad A b H locs sl ok ex hAD hcs hR hL
  obtain ⟨a, v, f, h1, hF⟩ := hZX _ _ _ _ ex
  subst hq
  refine va_ldcS ok.1 ok.2.1 ok.2.2.2.2.1 (by rw [hM]; exact h1) hd ?_
  refine lv_iload_n ok.1 ok.2.1 hd1 rfl (hL.2.2 2 _ hl (by intro z; cases z)) ?_
  refine s_cV (as := [.int (nI i)]) (rest := st.map (jtr ad b)) (d' := 3) ok hF hR.2.2.2.2 (by rw [hM]; exact vw_X7_33) rfl ⟨hroom.1, Nat.le_trans (by decide) hroom.2⟩ rfl hL.1 (hrest ad b) hcs (s_charAt hi) hd2 (fun H1 locs1 hS1 hk => ?_)
  exact K p e s m args below meth c D cA ad0 ad A b H1 locs1 sl ok ex hAD hcs (jR_kept hR hS1 hk) hL
end SJ
