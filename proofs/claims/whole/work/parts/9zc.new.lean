/-! CONSTRUCTORS: what they make -/
theorem gl {G s : jG} {g m g' : Nat} (h : G.length = g) (hs : s.length = m) (e : g + m = g') : (G ++ s).length = g' := by rw [List.length_append, h, hs, e]
theorem gx {G s : jG} {t : Nat} {sh : Nat × Nat} (h : G[t]? = some sh) : (G ++ s)[t]? = some sh := by rw [List.getElem?_append_left (List.getElem?_eq_some_iff.mp h).1]; exact h
theorem gw {G s : jG} {g i : Nat} {sh : Nat × Nat} (h : G.length = g) (hs : s[i]? = some sh) : (G ++ s)[g + i]? = some sh := by rw [List.getElem?_append_right (by omega), h, Nat.add_sub_cancel_left]; exact hs
theorem cl_z {G : jG} {μ : jM} {g : Nat} {sh : Nat × Nat} (h : G.length = g) (hc : jCl G μ) : jCl (G ++ [sh]) (z0 μ g) := fun a f x ha hx => by
  rw [List.length_append, h] at ha ⊢
  by_cases e : a = g
  · subst e; simp [z0] at hx
  · have : (z0 μ g).2.2 a f = μ.2.2 a f := by simp [z0, e]
    rw [this] at hx
    have := hc a f x (by simp at ha; omega) hx
    simp; omega
theorem cl_p {G : jG} {μ : jM} {t f x : Nat} (hc : jCl G μ) (hx : x < G.length) : jCl G (wP μ t f (some x)) := fun a f' y ha hy => by
  by_cases e : a = t
  · subst e
    by_cases e2 : f' = f
    · subst e2; rw [wP_at] at hy; cases hy; exact hx
    · rw [wP_o e2] at hy; exact hc a f' y ha hy
  · rw [wP_n e] at hy; exact hc a f' y ha hy
theorem cl_i {G : jG} {μ : jM} {t f : Nat} {x : Int32} (hc : jCl G μ) : jCl G (wI μ t f x) := hc
theorem cl_arr {G : jG} {μ : jM} {g t f : Nat} {sh : Nat × Nat} (h : G.length = g) (hc : jCl G μ) (_ : t < g) : jCl (G ++ [sh]) (wP (z0 μ g) t f (some g)) := cl_p (cl_z h hc) (by rw [List.length_append, h]; simp)
section KNew
variable {l : Launch} {M : jMt} {d mc ms g0 : Nat} {post : Option Value → jM → jG → Prop} {X : jEX} {G : jG} {k n pc q : Nat} {ls st : List Value} {μ : jM}
theorem k_new {g ci idx N k' n' : Nat} {C : String} {T : u_T} (hg : G.length = g) (hcl : jCl G μ) (hsc : jSc g (ls ++ st)) (hg0 : g0 ≤ g) (hd : decode M.2.1 pc = .ok (.new idx, 3)) (hq : pc + 3 = q) (hc : jcl[ci]? = some (C, T, N)) (hw : Cond.classLink M.1.cls idx C ∈ jtbl) (hin : Cond.instantiable C N ∈ jtbl) (hini : Cond.initialized C ∈ jtbl) (hk : k + 1 = k') (hn : n + N = n') (hce : k' ≤ mc) (hsl : n' ≤ ms) (K : J l M (jZA d mc ms g0 post X) (G ++ [(ci + 5, N)]) k' n' q ls (.ref g :: st) (z0 μ g)) : J l M (jZA d mc ms g0 post X) G k n pc ls st μ := by
  subst hg; subst hk; subst hn
  exact j_new hd hq hc hw hin hini hce hsl (jZg_A hg0) hsc hcl K
theorem k_newq {g idx N k' n' : Nat} {i : Int32} (hg : G.length = g) (hcl : jCl G μ) (hsc : jSc g (ls ++ st)) (hg0 : g0 ≤ g) (hd : decode M.2.1 pc = .ok (.anewarray idx, 3)) (hq : pc + 3 = q) (hw : Cond.classLink M.1.cls idx RX9 ∈ jtbl) (hi : ¬ i < 0) (hN : i.toNatClampNeg = N) (hby : N ≤ 10000000) (hk : k + 1 = k') (hn : n + N = n') (hce : k' ≤ mc) (hsl : n' ≤ ms) (K : J l M (jZA d mc ms g0 post X) (G ++ [(4, N)]) k' n' q ls (.ref g :: st) (z0 μ g)) : J l M (jZA d mc ms g0 post X) G k n pc ls (.int i :: st) μ := by
  subst hg; subst hk; subst hn
  exact j_newq hd hq hw hi hN hby hce hsl (jZg_A hg0) hsc hcl K
theorem k_arr {g t f ci NF idx kd N k' n' : Nat} {atype : ArrayType} {ty : FieldType} {i : Int32} {C : String} {T : u_T} (hg : G.length = g) (hcl : jCl G μ) (hsc : jSc g ls) (hg0 : g0 ≤ g) (h3 : decode M.2.1 pc = .ok (.newarray atype, 2)) (h4 : decode M.2.1 (pc + 2) = .ok (.putfield idx, 3)) (hq : pc + 2 + 3 = q) (hty : newarray.typeOf atype = ty) (hkt : (kd = 0 ∧ ty = .int) ∨ (kd = 1 ∧ ty = .byte) ∨ (kd = 2 ∧ ty = .boolean) ∨ (kd = 3 ∧ ty = .long)) (harr : Cond.arrayClass ty ∈ jtbl) (hi : ¬ i < 0) (hN : i.toNatClampNeg = N) (hby : N ≤ 10000000) (hk : k + 1 = k') (hn : n + N = n') (hce : k' ≤ mc) (hsl : n' ≤ ms) (hG : G[t]? = some (ci + 5, NF)) (hc : jcl[ci]? = some (C, T, NF)) (hf : f < NF) (hw : Cond.fieldLink M.1.cls idx (T f).1 (T f).2.1 (T f).2.2.1 ∈ jtbl) (hfin : (T f).2.2.2 = true) (hin : M.1.name = "<init>") (hdc : (T f).1 = M.1.cls) (ht : jki (jty ci f) = 2)
    (K : J l M (jZA d mc ms g0 post X) (G ++ [(kd, N)]) k' n' q ls [] (wP (z0 μ g) t f (some g))) : J l M (jZA d mc ms g0 post X) G k n pc ls [.int i, .ref t] μ := by
  subst hg; subst hk; subst hn
  have htl := (List.getElem?_eq_some_iff.mp hG).1
  refine j_newa h3 rfl hty hkt harr hi hN hby hce hsl (jZg_A hg0) (fun v hv x e => ?_) hcl ?_
  · rcases List.mem_append.mp hv with h | h
    · exact hsc v h x e
    · cases List.mem_singleton.mp h; cases e; exact htl
  · exact j_putFR h4 hq (gx hG) hc hf hw hfin hin hdc ht K
end KNew
def kX5 (μ : jM) (t g : Nat) : jM := (wP (z0 μ g) t 0 (some g))
def sX5 : jG := [(0, 71)]
theorem n_X5 {l : Launch} {G : jG} {μ : jM} {t g : Nat} {X : jEX} (h0 : G.length = g) (t0 : G[t]? = some (10, 1)) (c0 : jCl G μ) (ht : t < g) (hX : jXs X) : jCA l mX5_init 1 1 71 G [.ref t] μ (fun r μ' G' => r = none ∧ G' = G ++ sX5 ∧ μ' = kX5 μ t g) X := by
  refine jCA.of (ls := [.ref t]) rfl rfl (jnd_ok rfl) (fun _ _ => (Nat.le_of_ble_eq_true rfl)) ?_
  rw [h0]
  refine j_aload_n dX5_init_0 rfl rfl ?_
  refine j_objInit dX5_init_1 rfl ml_X5_5 im_obj co_obj ⟨(Nat.le_of_ble_eq_true rfl), (Nat.le_of_ble_eq_true rfl)⟩ rfl ?_
  refine j_aload_n dX5_init_4 rfl rfl ?_
  refine j_bipush 71 dX5_init_5 rfl (by decide) ?_
  refine k_arr (g := g) (t := t) (f := 0) (ci := 5) (NF := 1) (T := TX5) (kd := 0) (N := 71) (k' := 1) (n' := 71) h0 c0 (jSc_r (by omega) jSc_0) (by omega) dX5_init_7 dX5_init_9 rfl rfl (Or.inl ⟨rfl, rfl⟩) ac_int (by decide) rfl (by decide) rfl rfl (Nat.le_of_ble_eq_true rfl) (Nat.le_of_ble_eq_true rfl) t0 rfl (by decide) fl_X5_11 rfl rfl rfl rfl ?_
  have h1 := gl (s := [(0, 71)]) (m := 1) (g' := (g + 1)) h0 rfl rfl
  have c1 := cl_arr (sh := (0, 71)) (f := 0) h0 c0 (show t < g by omega)
  have t1_0 := gx (s := [(0, 71)]) t0
  exact j_vretA dX5_init_12 rfl ⟨rfl, (by first | (simp only [List.append_assoc, List.cons_append, List.nil_append]; rfl) | rfl), rfl⟩
theorem kc_X5 {G : jG} {μ : jM} {t g : Nat} (h0 : G.length = g) (c0 : jCl G μ) (ht : t < g) : jCl (G ++ sX5) (kX5 μ t g) := by
  have h1 := gl (s := [(0, 71)]) (m := 1) (g' := (g + 1)) h0 rfl rfl
  have c1 := cl_arr (sh := (0, 71)) (f := 0) h0 c0 (show t < g by omega)
  have e : G ++ sX5 = G ++ [(0, 71)] := by first | (simp only [List.append_assoc, List.cons_append, List.nil_append]; rfl) | rfl
  rw [e]
  exact c1
def kX9 (μ : jM) (t g : Nat) : jM := (wP (z0 (wP (z0 (wP (z0 (wP (z0 μ g) t 2 (some g)) (g + 1)) t 3 (some (g + 1))) (g + 2)) t 4 (some (g + 2))) (g + 3)) t 8 (some (g + 3)))
def sX9 : jG := [(0, 12), (0, 12), (0, 8), (0, 8)]
theorem n_X9 {l : Launch} {G : jG} {μ : jM} {t g : Nat} {X : jEX} (h0 : G.length = g) (t0 : G[t]? = some (14, 9)) (c0 : jCl G μ) (ht : t < g) (hX : jXs X) : jCA l mX9_init 1 4 40 G [.ref t] μ (fun r μ' G' => r = none ∧ G' = G ++ sX9 ∧ μ' = kX9 μ t g) X := by
  refine jCA.of (ls := [.ref t]) rfl rfl (jnd_ok rfl) (fun _ _ => (Nat.le_of_ble_eq_true rfl)) ?_
  rw [h0]
  refine j_aload_n dX9_init_0 rfl rfl ?_
  refine j_objInit dX9_init_1 rfl ml_X9_3 im_obj co_obj ⟨(Nat.le_of_ble_eq_true rfl), (Nat.le_of_ble_eq_true rfl)⟩ rfl ?_
  refine j_aload_n dX9_init_4 rfl rfl ?_
  refine j_bipush 12 dX9_init_5 rfl (by decide) ?_
  refine k_arr (g := g) (t := t) (f := 2) (ci := 9) (NF := 9) (T := TX9) (kd := 0) (N := 12) (k' := 1) (n' := 12) h0 c0 (jSc_r (by omega) jSc_0) (by omega) dX9_init_7 dX9_init_9 rfl rfl (Or.inl ⟨rfl, rfl⟩) ac_int (by decide) rfl (by decide) rfl rfl (Nat.le_of_ble_eq_true rfl) (Nat.le_of_ble_eq_true rfl) t0 rfl (by decide) fl_X9_9 rfl rfl rfl rfl ?_
  have h1 := gl (s := [(0, 12)]) (m := 1) (g' := (g + 1)) h0 rfl rfl
  have c1 := cl_arr (sh := (0, 12)) (f := 2) h0 c0 (show t < g by omega)
  have t1_0 := gx (s := [(0, 12)]) t0
  refine j_aload_n dX9_init_12 rfl rfl ?_
  refine j_bipush 12 dX9_init_13 rfl (by decide) ?_
  refine k_arr (g := (g + 1)) (t := t) (f := 3) (ci := 9) (NF := 9) (T := TX9) (kd := 0) (N := 12) (k' := 2) (n' := 24) h1 c1 (jSc_r (by omega) jSc_0) (by omega) dX9_init_15 dX9_init_17 rfl rfl (Or.inl ⟨rfl, rfl⟩) ac_int (by decide) rfl (by decide) rfl rfl (Nat.le_of_ble_eq_true rfl) (Nat.le_of_ble_eq_true rfl) t1_0 rfl (by decide) fl_X9_15 rfl rfl rfl rfl ?_
  have h2 := gl (s := [(0, 12)]) (m := 1) (g' := (g + 2)) h1 rfl rfl
  have c2 := cl_arr (sh := (0, 12)) (f := 3) h1 c1 (show t < (g + 1) by omega)
  have t2_0 := gx (s := [(0, 12)]) t1_0
  refine j_aload_n dX9_init_20 rfl rfl ?_
  refine j_bipush 8 dX9_init_21 rfl (by decide) ?_
  refine k_arr (g := (g + 2)) (t := t) (f := 4) (ci := 9) (NF := 9) (T := TX9) (kd := 0) (N := 8) (k' := 3) (n' := 32) h2 c2 (jSc_r (by omega) jSc_0) (by omega) dX9_init_23 dX9_init_25 rfl rfl (Or.inl ⟨rfl, rfl⟩) ac_int (by decide) rfl (by decide) rfl rfl (Nat.le_of_ble_eq_true rfl) (Nat.le_of_ble_eq_true rfl) t2_0 rfl (by decide) fl_X9_18 rfl rfl rfl rfl ?_
  have h3 := gl (s := [(0, 8)]) (m := 1) (g' := (g + 3)) h2 rfl rfl
  have c3 := cl_arr (sh := (0, 8)) (f := 4) h2 c2 (show t < (g + 2) by omega)
  have t3_0 := gx (s := [(0, 8)]) t2_0
  refine j_aload_n dX9_init_28 rfl rfl ?_
  refine j_bipush 8 dX9_init_29 rfl (by decide) ?_
  refine k_arr (g := (g + 3)) (t := t) (f := 8) (ci := 9) (NF := 9) (T := TX9) (kd := 0) (N := 8) (k' := 4) (n' := 40) h3 c3 (jSc_r (by omega) jSc_0) (by omega) dX9_init_31 dX9_init_33 rfl rfl (Or.inl ⟨rfl, rfl⟩) ac_int (by decide) rfl (by decide) rfl rfl (Nat.le_of_ble_eq_true rfl) (Nat.le_of_ble_eq_true rfl) t3_0 rfl (by decide) fl_X9_21 rfl rfl rfl rfl ?_
  have h4 := gl (s := [(0, 8)]) (m := 1) (g' := (g + 4)) h3 rfl rfl
  have c4 := cl_arr (sh := (0, 8)) (f := 8) h3 c3 (show t < (g + 3) by omega)
  have t4_0 := gx (s := [(0, 8)]) t3_0
  exact j_vretA dX9_init_36 rfl ⟨rfl, (by first | (simp only [List.append_assoc, List.cons_append, List.nil_append]; rfl) | rfl), rfl⟩
theorem kc_X9 {G : jG} {μ : jM} {t g : Nat} (h0 : G.length = g) (c0 : jCl G μ) (ht : t < g) : jCl (G ++ sX9) (kX9 μ t g) := by
  have h1 := gl (s := [(0, 12)]) (m := 1) (g' := (g + 1)) h0 rfl rfl
  have c1 := cl_arr (sh := (0, 12)) (f := 2) h0 c0 (show t < g by omega)
  have h2 := gl (s := [(0, 12)]) (m := 1) (g' := (g + 2)) h1 rfl rfl
  have c2 := cl_arr (sh := (0, 12)) (f := 3) h1 c1 (show t < (g + 1) by omega)
  have h3 := gl (s := [(0, 8)]) (m := 1) (g' := (g + 3)) h2 rfl rfl
  have c3 := cl_arr (sh := (0, 8)) (f := 4) h2 c2 (show t < (g + 2) by omega)
  have h4 := gl (s := [(0, 8)]) (m := 1) (g' := (g + 4)) h3 rfl rfl
  have c4 := cl_arr (sh := (0, 8)) (f := 8) h3 c3 (show t < (g + 3) by omega)
  have e : G ++ sX9 = G ++ [(0, 12)] ++ [(0, 12)] ++ [(0, 8)] ++ [(0, 8)] := by first | (simp only [List.append_assoc, List.cons_append, List.nil_append]; rfl) | rfl
  rw [e]
  exact c4
def kX2 (μ : jM) (t g : Nat) (vv : Int32) : jM := (wI (wP (z0 (wP (z0 (wP (z0 μ g) t 1 (some g)) (g + 1)) t 2 (some (g + 1))) (g + 2)) t 4 (some (g + 2))) t 3 vv)
def sX2 : jG := [(3, 84), (0, 84), (0, 400)]
theorem n_X2 {l : Launch} {G : jG} {μ : jM} {t g : Nat} {vv : Int32} {X : jEX} (h0 : G.length = g) (t0 : G[t]? = some (7, 6)) (c0 : jCl G μ) (ht : t < g) (hX : jXs X) : jCA l mX2_init 1 3 568 G [.ref t, .int vv] μ (fun r μ' G' => r = none ∧ G' = G ++ sX2 ∧ μ' = kX2 μ t g vv) X := by
  refine jCA.of (ls := [.ref t, .int vv]) rfl rfl (jnd_ok rfl) (fun _ _ => (Nat.le_of_ble_eq_true rfl)) ?_
  rw [h0]
  refine j_aload_n dX2_init_0 rfl rfl ?_
  refine j_objInit dX2_init_1 rfl ml_X2_5 im_obj co_obj ⟨(Nat.le_of_ble_eq_true rfl), (Nat.le_of_ble_eq_true rfl)⟩ rfl ?_
  refine j_aload_n dX2_init_4 rfl rfl ?_
  refine j_bipush 84 dX2_init_5 rfl (by decide) ?_
  refine k_arr (g := g) (t := t) (f := 1) (ci := 2) (NF := 6) (T := TX2) (kd := 3) (N := 84) (k' := 1) (n' := 84) h0 c0 (jSc_r (by omega) (jSc_i jSc_0)) (by omega) dX2_init_7 dX2_init_9 rfl rfl (Or.inr (Or.inr (Or.inr ⟨rfl, rfl⟩))) ac_long (by decide) rfl (by decide) rfl rfl (Nat.le_of_ble_eq_true rfl) (Nat.le_of_ble_eq_true rfl) t0 rfl (by decide) fl_X2_11 rfl rfl rfl rfl ?_
  have h1 := gl (s := [(3, 84)]) (m := 1) (g' := (g + 1)) h0 rfl rfl
  have c1 := cl_arr (sh := (3, 84)) (f := 1) h0 c0 (show t < g by omega)
  have t1_0 := gx (s := [(3, 84)]) t0
  refine j_aload_n dX2_init_12 rfl rfl ?_
  refine j_bipush 84 dX2_init_13 rfl (by decide) ?_
  refine k_arr (g := (g + 1)) (t := t) (f := 2) (ci := 2) (NF := 6) (T := TX2) (kd := 0) (N := 84) (k' := 2) (n' := 168) h1 c1 (jSc_r (by omega) (jSc_i jSc_0)) (by omega) dX2_init_15 dX2_init_17 rfl rfl (Or.inl ⟨rfl, rfl⟩) ac_int (by decide) rfl (by decide) rfl rfl (Nat.le_of_ble_eq_true rfl) (Nat.le_of_ble_eq_true rfl) t1_0 rfl (by decide) fl_X2_15 rfl rfl rfl rfl ?_
  have h2 := gl (s := [(0, 84)]) (m := 1) (g' := (g + 2)) h1 rfl rfl
  have c2 := cl_arr (sh := (0, 84)) (f := 2) h1 c1 (show t < (g + 1) by omega)
  have t2_0 := gx (s := [(0, 84)]) t1_0
  refine j_aload_n dX2_init_20 rfl rfl ?_
  refine j_sipush 400 dX2_init_21 rfl (by decide) ?_
  refine k_arr (g := (g + 2)) (t := t) (f := 4) (ci := 2) (NF := 6) (T := TX2) (kd := 0) (N := 400) (k' := 3) (n' := 568) h2 c2 (jSc_r (by omega) (jSc_i jSc_0)) (by omega) dX2_init_24 dX2_init_26 rfl rfl (Or.inl ⟨rfl, rfl⟩) ac_int (by decide) rfl (by decide) rfl rfl (Nat.le_of_ble_eq_true rfl) (Nat.le_of_ble_eq_true rfl) t2_0 rfl (by decide) fl_X2_19 rfl rfl rfl rfl ?_
  have h3 := gl (s := [(0, 400)]) (m := 1) (g' := (g + 3)) h2 rfl rfl
  have c3 := cl_arr (sh := (0, 400)) (f := 4) h2 c2 (show t < (g + 2) by omega)
  have t3_0 := gx (s := [(0, 400)]) t2_0
  refine j_aload_n dX2_init_29 rfl rfl ?_
  refine j_iload_n dX2_init_30 rfl rfl ?_
  refine j_putFI (ci := 2) (N := 6) (f := 3) (T := TX2) dX2_init_31 rfl t3_0 rfl (by decide) fl_X2_22 rfl rfl rfl rfl ?_
  have c4 := cl_i (t := t) (f := 3) (x := vv) c3
  exact j_vretA dX2_init_34 rfl ⟨rfl, (by first | (simp only [List.append_assoc, List.cons_append, List.nil_append]; rfl) | rfl), rfl⟩
theorem kc_X2 {G : jG} {μ : jM} {t g : Nat} {vv : Int32} (h0 : G.length = g) (c0 : jCl G μ) (ht : t < g) : jCl (G ++ sX2) (kX2 μ t g vv) := by
  have h1 := gl (s := [(3, 84)]) (m := 1) (g' := (g + 1)) h0 rfl rfl
  have c1 := cl_arr (sh := (3, 84)) (f := 1) h0 c0 (show t < g by omega)
  have h2 := gl (s := [(0, 84)]) (m := 1) (g' := (g + 2)) h1 rfl rfl
  have c2 := cl_arr (sh := (0, 84)) (f := 2) h1 c1 (show t < (g + 1) by omega)
  have h3 := gl (s := [(0, 400)]) (m := 1) (g' := (g + 3)) h2 rfl rfl
  have c3 := cl_arr (sh := (0, 400)) (f := 4) h2 c2 (show t < (g + 2) by omega)
  have c4 := cl_i (t := t) (f := 3) (x := vv) c3
  have e : G ++ sX2 = G ++ [(3, 84)] ++ [(0, 84)] ++ [(0, 400)] := by first | (simp only [List.append_assoc, List.cons_append, List.nil_append]; rfl) | rfl
  rw [e]
  exact c4
def kX8 (μ : jM) (t g : Nat) : jM := (wP (kX2 (z0 (wP (kX2 (z0 (wP (kX2 (z0 (wP (z0 (wP (z0 (wP (z0 (wP (z0 (wP (z0 (wP (z0 (wP (z0 (wP (z0 μ g) t 3 (some g)) (g + 1)) t 4 (some (g + 1))) (g + 2)) t 5 (some (g + 2))) (g + 3)) t 8 (some (g + 3))) (g + 4)) t 9 (some (g + 4))) (g + 5)) t 10 (some (g + 5))) (g + 6)) t 11 (some (g + 6))) (g + 7)) t 12 (some (g + 7))) (g + 8)) (g + 8) (g + 9) 511) t 13 (some (g + 8))) (g + 12)) (g + 12) (g + 13) 511) t 14 (some (g + 12))) (g + 16)) (g + 16) (g + 17) 416) t 15 (some (g + 16)))
def sX8 : jG := [(0, 12), (0, 12), (0, 12), (0, 7), (0, 7), (0, 7), (0, 7), (0, 7), (7, 6), (3, 84), (0, 84), (0, 400), (7, 6), (3, 84), (0, 84), (0, 400), (7, 6), (3, 84), (0, 84), (0, 400)]
theorem n_X8 {l : Launch} {G : jG} {μ : jM} {t g : Nat} {X : jEX} (h0 : G.length = g) (t0 : G[t]? = some (13, 20)) (c0 : jCl G μ) (ht : t < g) (hX : jXs X) : jCA l mX8_init 2 20 1793 G [.ref t] μ (fun r μ' G' => r = none ∧ G' = G ++ sX8 ∧ μ' = kX8 μ t g) X := by
  refine jCA.of (ls := [.ref t]) rfl rfl (jnd_ok rfl) (fun _ _ => (Nat.le_of_ble_eq_true rfl)) ?_
  rw [h0]
  refine j_aload_n dX8_init_0 rfl rfl ?_
  refine j_objInit dX8_init_1 rfl ml_X8_3 im_obj co_obj ⟨(Nat.le_of_ble_eq_true rfl), (Nat.le_of_ble_eq_true rfl)⟩ rfl ?_
  refine j_aload_n dX8_init_4 rfl rfl ?_
  refine j_bipush 12 dX8_init_5 rfl (by decide) ?_
  refine k_arr (g := g) (t := t) (f := 3) (ci := 8) (NF := 20) (T := TX8) (kd := 0) (N := 12) (k' := 1) (n' := 12) h0 c0 (jSc_r (by omega) jSc_0) (by omega) dX8_init_7 dX8_init_9 rfl rfl (Or.inl ⟨rfl, rfl⟩) ac_int (by decide) rfl (by decide) rfl rfl (Nat.le_of_ble_eq_true rfl) (Nat.le_of_ble_eq_true rfl) t0 rfl (by decide) fl_X8_9 rfl rfl rfl rfl ?_
  have h1 := gl (s := [(0, 12)]) (m := 1) (g' := (g + 1)) h0 rfl rfl
  have c1 := cl_arr (sh := (0, 12)) (f := 3) h0 c0 (show t < g by omega)
  have t1_0 := gx (s := [(0, 12)]) t0
  refine j_aload_n dX8_init_12 rfl rfl ?_
  refine j_bipush 12 dX8_init_13 rfl (by decide) ?_
  refine k_arr (g := (g + 1)) (t := t) (f := 4) (ci := 8) (NF := 20) (T := TX8) (kd := 0) (N := 12) (k' := 2) (n' := 24) h1 c1 (jSc_r (by omega) jSc_0) (by omega) dX8_init_15 dX8_init_17 rfl rfl (Or.inl ⟨rfl, rfl⟩) ac_int (by decide) rfl (by decide) rfl rfl (Nat.le_of_ble_eq_true rfl) (Nat.le_of_ble_eq_true rfl) t1_0 rfl (by decide) fl_X8_15 rfl rfl rfl rfl ?_
  have h2 := gl (s := [(0, 12)]) (m := 1) (g' := (g + 2)) h1 rfl rfl
  have c2 := cl_arr (sh := (0, 12)) (f := 4) h1 c1 (show t < (g + 1) by omega)
  have t2_0 := gx (s := [(0, 12)]) t1_0
  refine j_aload_n dX8_init_20 rfl rfl ?_
  refine j_bipush 12 dX8_init_21 rfl (by decide) ?_
  refine k_arr (g := (g + 2)) (t := t) (f := 5) (ci := 8) (NF := 20) (T := TX8) (kd := 0) (N := 12) (k' := 3) (n' := 36) h2 c2 (jSc_r (by omega) jSc_0) (by omega) dX8_init_23 dX8_init_25 rfl rfl (Or.inl ⟨rfl, rfl⟩) ac_int (by decide) rfl (by decide) rfl rfl (Nat.le_of_ble_eq_true rfl) (Nat.le_of_ble_eq_true rfl) t2_0 rfl (by decide) fl_X8_18 rfl rfl rfl rfl ?_
  have h3 := gl (s := [(0, 12)]) (m := 1) (g' := (g + 3)) h2 rfl rfl
  have c3 := cl_arr (sh := (0, 12)) (f := 5) h2 c2 (show t < (g + 2) by omega)
  have t3_0 := gx (s := [(0, 12)]) t2_0
  refine j_aload_n dX8_init_28 rfl rfl ?_
  refine j_bipush 7 dX8_init_29 rfl (by decide) ?_
  refine k_arr (g := (g + 3)) (t := t) (f := 8) (ci := 8) (NF := 20) (T := TX8) (kd := 0) (N := 7) (k' := 4) (n' := 43) h3 c3 (jSc_r (by omega) jSc_0) (by omega) dX8_init_31 dX8_init_33 rfl rfl (Or.inl ⟨rfl, rfl⟩) ac_int (by decide) rfl (by decide) rfl rfl (Nat.le_of_ble_eq_true rfl) (Nat.le_of_ble_eq_true rfl) t3_0 rfl (by decide) fl_X8_21 rfl rfl rfl rfl ?_
  have h4 := gl (s := [(0, 7)]) (m := 1) (g' := (g + 4)) h3 rfl rfl
  have c4 := cl_arr (sh := (0, 7)) (f := 8) h3 c3 (show t < (g + 3) by omega)
  have t4_0 := gx (s := [(0, 7)]) t3_0
  refine j_aload_n dX8_init_36 rfl rfl ?_
  refine j_bipush 7 dX8_init_37 rfl (by decide) ?_
  refine k_arr (g := (g + 4)) (t := t) (f := 9) (ci := 8) (NF := 20) (T := TX8) (kd := 0) (N := 7) (k' := 5) (n' := 50) h4 c4 (jSc_r (by omega) jSc_0) (by omega) dX8_init_39 dX8_init_41 rfl rfl (Or.inl ⟨rfl, rfl⟩) ac_int (by decide) rfl (by decide) rfl rfl (Nat.le_of_ble_eq_true rfl) (Nat.le_of_ble_eq_true rfl) t4_0 rfl (by decide) fl_X8_24 rfl rfl rfl rfl ?_
  have h5 := gl (s := [(0, 7)]) (m := 1) (g' := (g + 5)) h4 rfl rfl
  have c5 := cl_arr (sh := (0, 7)) (f := 9) h4 c4 (show t < (g + 4) by omega)
  have t5_0 := gx (s := [(0, 7)]) t4_0
  refine j_aload_n dX8_init_44 rfl rfl ?_
  refine j_bipush 7 dX8_init_45 rfl (by decide) ?_
  refine k_arr (g := (g + 5)) (t := t) (f := 10) (ci := 8) (NF := 20) (T := TX8) (kd := 0) (N := 7) (k' := 6) (n' := 57) h5 c5 (jSc_r (by omega) jSc_0) (by omega) dX8_init_47 dX8_init_49 rfl rfl (Or.inl ⟨rfl, rfl⟩) ac_int (by decide) rfl (by decide) rfl rfl (Nat.le_of_ble_eq_true rfl) (Nat.le_of_ble_eq_true rfl) t5_0 rfl (by decide) fl_X8_27 rfl rfl rfl rfl ?_
  have h6 := gl (s := [(0, 7)]) (m := 1) (g' := (g + 6)) h5 rfl rfl
  have c6 := cl_arr (sh := (0, 7)) (f := 10) h5 c5 (show t < (g + 5) by omega)
  have t6_0 := gx (s := [(0, 7)]) t5_0
  refine j_aload_n dX8_init_52 rfl rfl ?_
  refine j_bipush 7 dX8_init_53 rfl (by decide) ?_
  refine k_arr (g := (g + 6)) (t := t) (f := 11) (ci := 8) (NF := 20) (T := TX8) (kd := 0) (N := 7) (k' := 7) (n' := 64) h6 c6 (jSc_r (by omega) jSc_0) (by omega) dX8_init_55 dX8_init_57 rfl rfl (Or.inl ⟨rfl, rfl⟩) ac_int (by decide) rfl (by decide) rfl rfl (Nat.le_of_ble_eq_true rfl) (Nat.le_of_ble_eq_true rfl) t6_0 rfl (by decide) fl_X8_30 rfl rfl rfl rfl ?_
  have h7 := gl (s := [(0, 7)]) (m := 1) (g' := (g + 7)) h6 rfl rfl
  have c7 := cl_arr (sh := (0, 7)) (f := 11) h6 c6 (show t < (g + 6) by omega)
  have t7_0 := gx (s := [(0, 7)]) t6_0
  refine j_aload_n dX8_init_60 rfl rfl ?_
  refine j_bipush 7 dX8_init_61 rfl (by decide) ?_
  refine k_arr (g := (g + 7)) (t := t) (f := 12) (ci := 8) (NF := 20) (T := TX8) (kd := 0) (N := 7) (k' := 8) (n' := 71) h7 c7 (jSc_r (by omega) jSc_0) (by omega) dX8_init_63 dX8_init_65 rfl rfl (Or.inl ⟨rfl, rfl⟩) ac_int (by decide) rfl (by decide) rfl rfl (Nat.le_of_ble_eq_true rfl) (Nat.le_of_ble_eq_true rfl) t7_0 rfl (by decide) fl_X8_33 rfl rfl rfl rfl ?_
  have h8 := gl (s := [(0, 7)]) (m := 1) (g' := (g + 8)) h7 rfl rfl
  have c8 := cl_arr (sh := (0, 7)) (f := 12) h7 c7 (show t < (g + 7) by omega)
  have t8_0 := gx (s := [(0, 7)]) t7_0
  refine j_aload_n dX8_init_68 rfl rfl ?_
  refine k_new (g := (g + 8)) (ci := 2) (N := 6) (k' := 9) (n' := 77) h8 c8 (jSc_r (by omega) (jSc_r (by omega) jSc_0)) (by omega) dX8_init_69 rfl rfl cl_X8_36 it_X2 in_X2 rfl rfl (Nat.le_of_ble_eq_true rfl) (Nat.le_of_ble_eq_true rfl) ?_
  have h9 := gl (s := [(7, 6)]) (m := 1) (g' := (g + 9)) h8 rfl rfl
  have c9 := cl_z (sh := (7, 6)) h8 c8
  have t9_0 := gx (s := [(7, 6)]) t8_0
  have t9_1 := gw (s := [(7, 6)]) (i := 0) (sh := (7, 6)) h8 rfl
  refine j_dup dX8_init_72 rfl (fun _ _ => rfl) ?_
  refine j_sipush 511 dX8_init_73 rfl (by decide) ?_
  refine j_cIA (as := [.int 511]) (rest := [.ref (g + 8), .ref t]) (mc := 3) (ms := 568) dX8_init_76 rfl vw_X8_38 rfl ⟨(Nat.le_of_ble_eq_true rfl), (Nat.le_of_ble_eq_true rfl)⟩ rfl rfl (fun _ _ => (Nat.le_of_ble_eq_true rfl)) hX (fun _ _ _ _ h => h) ⟨(Nat.le_of_ble_eq_true rfl), (Nat.le_of_ble_eq_true rfl)⟩ (jZg_A (by rw [h9]; omega)) (by rw [h9]; exact (jSc_r (by omega) (jSc_r (by omega) (jSc_r (by omega) jSc_0)))) (n_X2 (vv := 511) h9 t9_1 c9 (by omega) hX) ?_
  rintro _ _ _ ⟨rfl, rfl, rfl⟩
  have h10 := gl (s := sX2) (m := 3) (g' := (g + 12)) h9 rfl rfl
  have c10 := kc_X2 (t := (g + 8)) (vv := 511) h9 c9 (by omega)
  have t10_0 := gx (s := sX2) t9_0
  have t10_1 := gx (s := sX2) t9_1
  refine j_putFR (ci := 8) (N := 20) (f := 13) (T := TX8) dX8_init_79 rfl t10_0 rfl (by decide) fl_X8_41 rfl rfl rfl rfl ?_
  have c11 := cl_p (t := t) (f := 13) (x := (g + 8)) c10 (by rw [h10]; omega)
  refine j_aload_n dX8_init_82 rfl rfl ?_
  refine k_new (g := (g + 12)) (ci := 2) (N := 6) (k' := 13) (n' := 651) h10 c11 (jSc_r (by omega) (jSc_r (by omega) jSc_0)) (by omega) dX8_init_83 rfl rfl cl_X8_36 it_X2 in_X2 rfl rfl (Nat.le_of_ble_eq_true rfl) (Nat.le_of_ble_eq_true rfl) ?_
  have h12 := gl (s := [(7, 6)]) (m := 1) (g' := (g + 13)) h10 rfl rfl
  have c12 := cl_z (sh := (7, 6)) h10 c11
  have t12_0 := gx (s := [(7, 6)]) t10_0
  have t12_1 := gw (s := [(7, 6)]) (i := 0) (sh := (7, 6)) h10 rfl
  refine j_dup dX8_init_86 rfl (fun _ _ => rfl) ?_
  refine j_sipush 511 dX8_init_87 rfl (by decide) ?_
  refine j_cIA (as := [.int 511]) (rest := [.ref (g + 12), .ref t]) (mc := 3) (ms := 568) dX8_init_90 rfl vw_X8_38 rfl ⟨(Nat.le_of_ble_eq_true rfl), (Nat.le_of_ble_eq_true rfl)⟩ rfl rfl (fun _ _ => (Nat.le_of_ble_eq_true rfl)) hX (fun _ _ _ _ h => h) ⟨(Nat.le_of_ble_eq_true rfl), (Nat.le_of_ble_eq_true rfl)⟩ (jZg_A (by rw [h12]; omega)) (by rw [h12]; exact (jSc_r (by omega) (jSc_r (by omega) (jSc_r (by omega) jSc_0)))) (n_X2 (vv := 511) h12 t12_1 c12 (by omega) hX) ?_
  rintro _ _ _ ⟨rfl, rfl, rfl⟩
  have h13 := gl (s := sX2) (m := 3) (g' := (g + 16)) h12 rfl rfl
  have c13 := kc_X2 (t := (g + 12)) (vv := 511) h12 c12 (by omega)
  have t13_0 := gx (s := sX2) t12_0
  have t13_1 := gx (s := sX2) t12_1
  refine j_putFR (ci := 8) (N := 20) (f := 14) (T := TX8) dX8_init_93 rfl t13_0 rfl (by decide) fl_X8_45 rfl rfl rfl rfl ?_
  have c14 := cl_p (t := t) (f := 14) (x := (g + 12)) c13 (by rw [h13]; omega)
  refine j_aload_n dX8_init_96 rfl rfl ?_
  refine k_new (g := (g + 16)) (ci := 2) (N := 6) (k' := 17) (n' := 1225) h13 c14 (jSc_r (by omega) (jSc_r (by omega) jSc_0)) (by omega) dX8_init_97 rfl rfl cl_X8_36 it_X2 in_X2 rfl rfl (Nat.le_of_ble_eq_true rfl) (Nat.le_of_ble_eq_true rfl) ?_
  have h15 := gl (s := [(7, 6)]) (m := 1) (g' := (g + 17)) h13 rfl rfl
  have c15 := cl_z (sh := (7, 6)) h13 c14
  have t15_0 := gx (s := [(7, 6)]) t13_0
  have t15_1 := gw (s := [(7, 6)]) (i := 0) (sh := (7, 6)) h13 rfl
  refine j_dup dX8_init_100 rfl (fun _ _ => rfl) ?_
  refine j_sipush 416 dX8_init_101 rfl (by decide) ?_
  refine j_cIA (as := [.int 416]) (rest := [.ref (g + 16), .ref t]) (mc := 3) (ms := 568) dX8_init_104 rfl vw_X8_38 rfl ⟨(Nat.le_of_ble_eq_true rfl), (Nat.le_of_ble_eq_true rfl)⟩ rfl rfl (fun _ _ => (Nat.le_of_ble_eq_true rfl)) hX (fun _ _ _ _ h => h) ⟨(Nat.le_of_ble_eq_true rfl), (Nat.le_of_ble_eq_true rfl)⟩ (jZg_A (by rw [h15]; omega)) (by rw [h15]; exact (jSc_r (by omega) (jSc_r (by omega) (jSc_r (by omega) jSc_0)))) (n_X2 (vv := 416) h15 t15_1 c15 (by omega) hX) ?_
  rintro _ _ _ ⟨rfl, rfl, rfl⟩
  have h16 := gl (s := sX2) (m := 3) (g' := (g + 20)) h15 rfl rfl
  have c16 := kc_X2 (t := (g + 16)) (vv := 416) h15 c15 (by omega)
  have t16_0 := gx (s := sX2) t15_0
  have t16_1 := gx (s := sX2) t15_1
  refine j_putFR (ci := 8) (N := 20) (f := 15) (T := TX8) dX8_init_107 rfl t16_0 rfl (by decide) fl_X8_48 rfl rfl rfl rfl ?_
  have c17 := cl_p (t := t) (f := 15) (x := (g + 16)) c16 (by rw [h16]; omega)
  exact j_vretA dX8_init_110 rfl ⟨rfl, (by first | (simp only [List.append_assoc, List.cons_append, List.nil_append]; rfl) | rfl), rfl⟩
theorem kc_X8 {G : jG} {μ : jM} {t g : Nat} (h0 : G.length = g) (c0 : jCl G μ) (ht : t < g) : jCl (G ++ sX8) (kX8 μ t g) := by
  have h1 := gl (s := [(0, 12)]) (m := 1) (g' := (g + 1)) h0 rfl rfl
  have c1 := cl_arr (sh := (0, 12)) (f := 3) h0 c0 (show t < g by omega)
  have h2 := gl (s := [(0, 12)]) (m := 1) (g' := (g + 2)) h1 rfl rfl
  have c2 := cl_arr (sh := (0, 12)) (f := 4) h1 c1 (show t < (g + 1) by omega)
  have h3 := gl (s := [(0, 12)]) (m := 1) (g' := (g + 3)) h2 rfl rfl
  have c3 := cl_arr (sh := (0, 12)) (f := 5) h2 c2 (show t < (g + 2) by omega)
  have h4 := gl (s := [(0, 7)]) (m := 1) (g' := (g + 4)) h3 rfl rfl
  have c4 := cl_arr (sh := (0, 7)) (f := 8) h3 c3 (show t < (g + 3) by omega)
  have h5 := gl (s := [(0, 7)]) (m := 1) (g' := (g + 5)) h4 rfl rfl
  have c5 := cl_arr (sh := (0, 7)) (f := 9) h4 c4 (show t < (g + 4) by omega)
  have h6 := gl (s := [(0, 7)]) (m := 1) (g' := (g + 6)) h5 rfl rfl
  have c6 := cl_arr (sh := (0, 7)) (f := 10) h5 c5 (show t < (g + 5) by omega)
  have h7 := gl (s := [(0, 7)]) (m := 1) (g' := (g + 7)) h6 rfl rfl
  have c7 := cl_arr (sh := (0, 7)) (f := 11) h6 c6 (show t < (g + 6) by omega)
  have h8 := gl (s := [(0, 7)]) (m := 1) (g' := (g + 8)) h7 rfl rfl
  have c8 := cl_arr (sh := (0, 7)) (f := 12) h7 c7 (show t < (g + 7) by omega)
  have h9 := gl (s := [(7, 6)]) (m := 1) (g' := (g + 9)) h8 rfl rfl
  have c9 := cl_z (sh := (7, 6)) h8 c8
  have h10 := gl (s := sX2) (m := 3) (g' := (g + 12)) h9 rfl rfl
  have c10 := kc_X2 (t := (g + 8)) (vv := 511) h9 c9 (by omega)
  have c11 := cl_p (t := t) (f := 13) (x := (g + 8)) c10 (by rw [h10]; omega)
  have h12 := gl (s := [(7, 6)]) (m := 1) (g' := (g + 13)) h10 rfl rfl
  have c12 := cl_z (sh := (7, 6)) h10 c11
  have h13 := gl (s := sX2) (m := 3) (g' := (g + 16)) h12 rfl rfl
  have c13 := kc_X2 (t := (g + 12)) (vv := 511) h12 c12 (by omega)
  have c14 := cl_p (t := t) (f := 14) (x := (g + 12)) c13 (by rw [h13]; omega)
  have h15 := gl (s := [(7, 6)]) (m := 1) (g' := (g + 17)) h13 rfl rfl
  have c15 := cl_z (sh := (7, 6)) h13 c14
  have h16 := gl (s := sX2) (m := 3) (g' := (g + 20)) h15 rfl rfl
  have c16 := kc_X2 (t := (g + 16)) (vv := 416) h15 c15 (by omega)
  have c17 := cl_p (t := t) (f := 15) (x := (g + 16)) c16 (by rw [h16]; omega)
  have e : G ++ sX8 = G ++ [(0, 12)] ++ [(0, 12)] ++ [(0, 12)] ++ [(0, 7)] ++ [(0, 7)] ++ [(0, 7)] ++ [(0, 7)] ++ [(0, 7)] ++ [(7, 6)] ++ sX2 ++ [(7, 6)] ++ sX2 ++ [(7, 6)] ++ sX2 := by first | (simp only [List.append_assoc, List.cons_append, List.nil_append]; rfl) | rfl
  rw [e]
  exact c17
def kX6 (μ : jM) : jM := (wP (z0 μ 2) 1 0 (some 2))
def sX6 : jG := [(1, 2000)]
theorem n_X6 {l : Launch} {G : jG} {μ : jM} {X : jEX} (h0 : G.length = 2) (t0 : G[1]? = some (11, 2)) (c0 : jCl G μ) (ht : 1 < 2) (hX : jXs X) : jCA l mX6_init 1 1 2000 G [.ref 1] μ (fun r μ' G' => r = none ∧ G' = G ++ sX6 ∧ μ' = kX6 μ) X := by
  refine jCA.of (ls := [.ref 1]) rfl rfl (jnd_ok rfl) (fun _ _ => (Nat.le_of_ble_eq_true rfl)) ?_
  rw [h0]
  refine j_aload_n dX6_init_0 rfl rfl ?_
  refine j_objInit dX6_init_1 rfl ml_X6_3 im_obj co_obj ⟨(Nat.le_of_ble_eq_true rfl), (Nat.le_of_ble_eq_true rfl)⟩ rfl ?_
  refine j_aload_n dX6_init_4 rfl rfl ?_
  refine j_sipush 2000 dX6_init_5 rfl (by decide) ?_
  refine k_arr (g := 2) (t := 1) (f := 0) (ci := 6) (NF := 2) (T := TX6) (kd := 1) (N := 2000) (k' := 1) (n' := 2000) h0 c0 (jSc_r (by omega) jSc_0) (by omega) dX6_init_8 dX6_init_10 rfl rfl (Or.inr (Or.inl ⟨rfl, rfl⟩)) ac_byte (by decide) rfl (by decide) rfl rfl (Nat.le_of_ble_eq_true rfl) (Nat.le_of_ble_eq_true rfl) t0 rfl (by decide) fl_X6_9 rfl rfl rfl rfl ?_
  have h1 := gl (s := [(1, 2000)]) (m := 1) (g' := 3) h0 rfl rfl
  have c1 := cl_arr (sh := (1, 2000)) (f := 0) h0 c0 (show 1 < 2 by omega)
  have t1_0 := gx (s := [(1, 2000)]) t0
  exact j_vretA dX6_init_13 rfl ⟨rfl, (by first | (simp only [List.append_assoc, List.cons_append, List.nil_append]; rfl) | rfl), rfl⟩
theorem kc_X6 {G : jG} {μ : jM} (h0 : G.length = 2) (c0 : jCl G μ) (ht : 1 < 2) : jCl (G ++ sX6) (kX6 μ) := by
  have h1 := gl (s := [(1, 2000)]) (m := 1) (g' := 3) h0 rfl rfl
  have c1 := cl_arr (sh := (1, 2000)) (f := 0) h0 c0 (show 1 < 2 by omega)
  have e : G ++ sX6 = G ++ [(1, 2000)] := by first | (simp only [List.append_assoc, List.cons_append, List.nil_append]; rfl) | rfl
  rw [e]
  exact c1
def kX3 (μ : jM) : jM := (wP (z0 (wP (z0 μ 55) 54 2 (some 55)) 56) 54 3 (some 56))
def sX3 : jG := [(0, 2840), (0, 213)]
theorem n_X3 {l : Launch} {G : jG} {μ : jM} {X : jEX} (h0 : G.length = 55) (t0 : G[54]? = some (8, 5)) (c0 : jCl G μ) (ht : 54 < 55) (hX : jXs X) : jCA l mX3_init 1 2 3053 G [.ref 54] μ (fun r μ' G' => r = none ∧ G' = G ++ sX3 ∧ μ' = kX3 μ) X := by
  refine jCA.of (ls := [.ref 54]) rfl rfl (jnd_ok rfl) (fun _ _ => (Nat.le_of_ble_eq_true rfl)) ?_
  rw [h0]
  refine j_aload_n dX3_init_0 rfl rfl ?_
  refine j_objInit dX3_init_1 rfl ml_X3_1 im_obj co_obj ⟨(Nat.le_of_ble_eq_true rfl), (Nat.le_of_ble_eq_true rfl)⟩ rfl ?_
  refine j_aload_n dX3_init_4 rfl rfl ?_
  refine j_sipush 2840 dX3_init_5 rfl (by decide) ?_
  refine k_arr (g := 55) (t := 54) (f := 2) (ci := 3) (NF := 5) (T := TX3) (kd := 0) (N := 2840) (k' := 1) (n' := 2840) h0 c0 (jSc_r (by omega) jSc_0) (by omega) dX3_init_8 dX3_init_10 rfl rfl (Or.inl ⟨rfl, rfl⟩) ac_int (by decide) rfl (by decide) rfl rfl (Nat.le_of_ble_eq_true rfl) (Nat.le_of_ble_eq_true rfl) t0 rfl (by decide) fl_X3_11 rfl rfl rfl rfl ?_
  have h1 := gl (s := [(0, 2840)]) (m := 1) (g' := 56) h0 rfl rfl
  have c1 := cl_arr (sh := (0, 2840)) (f := 2) h0 c0 (show 54 < 55 by omega)
  have t1_0 := gx (s := [(0, 2840)]) t0
  refine j_aload_n dX3_init_13 rfl rfl ?_
  refine j_sipush 213 dX3_init_14 rfl (by decide) ?_
  refine k_arr (g := 56) (t := 54) (f := 3) (ci := 3) (NF := 5) (T := TX3) (kd := 0) (N := 213) (k' := 2) (n' := 3053) h1 c1 (jSc_r (by omega) jSc_0) (by omega) dX3_init_17 dX3_init_19 rfl rfl (Or.inl ⟨rfl, rfl⟩) ac_int (by decide) rfl (by decide) rfl rfl (Nat.le_of_ble_eq_true rfl) (Nat.le_of_ble_eq_true rfl) t1_0 rfl (by decide) fl_X3_15 rfl rfl rfl rfl ?_
  have h2 := gl (s := [(0, 213)]) (m := 1) (g' := 57) h1 rfl rfl
  have c2 := cl_arr (sh := (0, 213)) (f := 3) h1 c1 (show 54 < 56 by omega)
  have t2_0 := gx (s := [(0, 213)]) t1_0
  exact j_vretA dX3_init_22 rfl ⟨rfl, (by first | (simp only [List.append_assoc, List.cons_append, List.nil_append]; rfl) | rfl), rfl⟩
theorem kc_X3 {G : jG} {μ : jM} (h0 : G.length = 55) (c0 : jCl G μ) (ht : 54 < 55) : jCl (G ++ sX3) (kX3 μ) := by
  have h1 := gl (s := [(0, 2840)]) (m := 1) (g' := 56) h0 rfl rfl
  have c1 := cl_arr (sh := (0, 2840)) (f := 2) h0 c0 (show 54 < 55 by omega)
  have h2 := gl (s := [(0, 213)]) (m := 1) (g' := 57) h1 rfl rfl
  have c2 := cl_arr (sh := (0, 213)) (f := 3) h1 c1 (show 54 < 56 by omega)
  have e : G ++ sX3 = G ++ [(0, 2840)] ++ [(0, 213)] := by first | (simp only [List.append_assoc, List.cons_append, List.nil_append]; rfl) | rfl
  rw [e]
  exact c2
def kX10 (μ : jM) : jM := (wP (kX9 (z0 (wP (kX9 (z0 (wP (kX9 (z0 (wP (kX9 (z0 (wP (kX9 (z0 (wP (kX9 (z0 (wP (kX9 (z0 (wP (z0 (wP (z0 (wP (z0 (wP (z0 μ 13) 12 3 (some 13)) 14) 12 8 (some 14)) 15) 12 9 (some 15)) 16) 12 10 (some 16)) 17) 17 18) 13 0 (some 17)) 22) 22 23) 13 1 (some 22)) 27) 27 28) 13 2 (some 27)) 32) 32 33) 13 3 (some 32)) 37) 37 38) 13 4 (some 37)) 42) 42 43) 13 5 (some 42)) 47) 47 48) 13 6 (some 47))
def sX10 : jG := [(4, 7), (0, 12), (0, 9), (0, 24), (14, 9), (0, 12), (0, 12), (0, 8), (0, 8), (14, 9), (0, 12), (0, 12), (0, 8), (0, 8), (14, 9), (0, 12), (0, 12), (0, 8), (0, 8), (14, 9), (0, 12), (0, 12), (0, 8), (0, 8), (14, 9), (0, 12), (0, 12), (0, 8), (0, 8), (14, 9), (0, 12), (0, 12), (0, 8), (0, 8), (14, 9), (0, 12), (0, 12), (0, 8), (0, 8)]
theorem n_X10 {l : Launch} {G : jG} {μ : jM} {X : jEX} (h0 : G.length = 13) (t0 : G[12]? = some (15, 11)) (c0 : jCl G μ) (ht : 12 < 13) (hX : jXs X) : jCA l mX10_init 2 39 395 G [.ref 12] μ (fun r μ' G' => r = none ∧ G' = G ++ sX10 ∧ μ' = kX10 μ) X := by
  refine jCA.of (ls := [.ref 12, .null]) rfl rfl (jnd_ok rfl) (fun _ _ => (Nat.le_of_ble_eq_true rfl)) ?_
  rw [h0]
  refine j_aload_n dX10_init_0 rfl rfl ?_
  refine j_objInit dX10_init_1 rfl ml_X10_3 im_obj co_obj ⟨(Nat.le_of_ble_eq_true rfl), (Nat.le_of_ble_eq_true rfl)⟩ rfl ?_
  refine j_aload_n dX10_init_4 rfl rfl ?_
  refine j_bipush 7 dX10_init_5 rfl (by decide) ?_
  refine k_newq (g := 13) (N := 7) (k' := 1) (n' := 7) h0 c0 (jSc_r (by omega) (jSc_n (jSc_r (by omega) jSc_0))) (by omega) dX10_init_7 rfl cl_X10_9 (by decide) rfl (by decide) rfl rfl (Nat.le_of_ble_eq_true rfl) (Nat.le_of_ble_eq_true rfl) ?_
  have h1 := gl (s := [(4, 7)]) (m := 1) (g' := 14) h0 rfl rfl
  have c1 := cl_z (sh := (4, 7)) h0 c0
  have t1_0 := gx (s := [(4, 7)]) t0
  have t1_1 := gw (s := [(4, 7)]) (i := 0) (sh := (4, 7)) h0 rfl
  refine j_putFR (ci := 10) (N := 11) (f := 3) (T := TX10) dX10_init_10 rfl t1_0 rfl (by decide) fl_X10_11 rfl rfl rfl rfl ?_
  have c2 := cl_p (t := 12) (f := 3) (x := 13) c1 (by rw [h1]; omega)
  refine j_aload_n dX10_init_13 rfl rfl ?_
  refine j_bipush 12 dX10_init_14 rfl (by decide) ?_
  refine k_arr (g := 14) (t := 12) (f := 8) (ci := 10) (NF := 11) (T := TX10) (kd := 0) (N := 12) (k' := 2) (n' := 19) h1 c2 (jSc_r (by omega) (jSc_n jSc_0)) (by omega) dX10_init_16 dX10_init_18 rfl rfl (Or.inl ⟨rfl, rfl⟩) ac_int (by decide) rfl (by decide) rfl rfl (Nat.le_of_ble_eq_true rfl) (Nat.le_of_ble_eq_true rfl) t1_0 rfl (by decide) fl_X10_17 rfl rfl rfl rfl ?_
  have h3 := gl (s := [(0, 12)]) (m := 1) (g' := 15) h1 rfl rfl
  have c3 := cl_arr (sh := (0, 12)) (f := 8) h1 c2 (show 12 < 14 by omega)
  have t3_0 := gx (s := [(0, 12)]) t1_0
  have t3_1 := gx (s := [(0, 12)]) t1_1
  refine j_aload_n dX10_init_21 rfl rfl ?_
  refine j_bipush 9 dX10_init_22 rfl (by decide) ?_
  refine k_arr (g := 15) (t := 12) (f := 9) (ci := 10) (NF := 11) (T := TX10) (kd := 0) (N := 9) (k' := 3) (n' := 28) h3 c3 (jSc_r (by omega) (jSc_n jSc_0)) (by omega) dX10_init_24 dX10_init_26 rfl rfl (Or.inl ⟨rfl, rfl⟩) ac_int (by decide) rfl (by decide) rfl rfl (Nat.le_of_ble_eq_true rfl) (Nat.le_of_ble_eq_true rfl) t3_0 rfl (by decide) fl_X10_23 rfl rfl rfl rfl ?_
  have h4 := gl (s := [(0, 9)]) (m := 1) (g' := 16) h3 rfl rfl
  have c4 := cl_arr (sh := (0, 9)) (f := 9) h3 c3 (show 12 < 15 by omega)
  have t4_0 := gx (s := [(0, 9)]) t3_0
  have t4_1 := gx (s := [(0, 9)]) t3_1
  refine j_aload_n dX10_init_29 rfl rfl ?_
  refine j_bipush 24 dX10_init_30 rfl (by decide) ?_
  refine k_arr (g := 16) (t := 12) (f := 10) (ci := 10) (NF := 11) (T := TX10) (kd := 0) (N := 24) (k' := 4) (n' := 52) h4 c4 (jSc_r (by omega) (jSc_n jSc_0)) (by omega) dX10_init_32 dX10_init_34 rfl rfl (Or.inl ⟨rfl, rfl⟩) ac_int (by decide) rfl (by decide) rfl rfl (Nat.le_of_ble_eq_true rfl) (Nat.le_of_ble_eq_true rfl) t4_0 rfl (by decide) fl_X10_26 rfl rfl rfl rfl ?_
  have h5 := gl (s := [(0, 24)]) (m := 1) (g' := 17) h4 rfl rfl
  have c5 := cl_arr (sh := (0, 24)) (f := 10) h4 c4 (show 12 < 16 by omega)
  have t5_0 := gx (s := [(0, 24)]) t4_0
  have t5_1 := gx (s := [(0, 24)]) t4_1
  refine j_iconst 0 dX10_init_37 rfl (by decide) ?_
  refine j_istore_n (ls' := [.ref 12, .int 0]) dX10_init_38 rfl rfl (Nat.le_of_ble_eq_true rfl) rfl ?_
  refine j_iload_n dX10_init_39 rfl rfl ?_
  refine j_bipush 7 dX10_init_40 rfl (by decide) ?_
  refine j_icmp_ge 64 dX10_init_42 rfl (by decide) (fun h => absurd h (by decide)) (fun _ => ?_)
  refine j_aload_n dX10_init_45 rfl rfl ?_
  refine j_getR (ci := 10) (N := 11) (f := 3) (T := TX10) 13 dX10_init_46 rfl t5_0 rfl (by decide) fl_X10_11 rfl rfl ?_
  refine j_iload_n dX10_init_49 rfl rfl ?_
  refine k_new (g := 17) (ci := 9) (N := 9) (k' := 5) (n' := 61) h5 c5 (jSc_r (by omega) (jSc_i (jSc_i (jSc_r (by omega) jSc_0)))) (by omega) dX10_init_50 rfl rfl cl_X10_9 it_X9 in_X9 rfl rfl (Nat.le_of_ble_eq_true rfl) (Nat.le_of_ble_eq_true rfl) ?_
  have h6 := gl (s := [(14, 9)]) (m := 1) (g' := 18) h5 rfl rfl
  have c6 := cl_z (sh := (14, 9)) h5 c5
  have t6_0 := gx (s := [(14, 9)]) t5_0
  have t6_1 := gx (s := [(14, 9)]) t5_1
  have t6_2 := gw (s := [(14, 9)]) (i := 0) (sh := (14, 9)) h5 rfl
  refine j_dup dX10_init_53 rfl (fun _ _ => rfl) ?_
  refine j_cNA (as := []) (rest := [.ref 17, .int 0, .ref 13]) (mc := 4) (ms := 40) dX10_init_54 rfl vw_X10_29 rfl ⟨(Nat.le_of_ble_eq_true rfl), (Nat.le_of_ble_eq_true rfl)⟩ rfl rfl (fun _ _ => (Nat.le_of_ble_eq_true rfl)) hX (fun _ _ _ _ h => h) ⟨(Nat.le_of_ble_eq_true rfl), (Nat.le_of_ble_eq_true rfl)⟩ (jZg_A (by rw [h6]; omega)) (by rw [h6]; exact (jSc_r (by omega) (jSc_i (jSc_r (by omega) (jSc_i (jSc_r (by omega) jSc_0)))))) (n_X9 h6 t6_2 c6 (by omega) hX) ?_
  rintro _ _ _ ⟨rfl, rfl, rfl⟩
  have h7 := gl (s := sX9) (m := 4) (g' := 22) h6 rfl rfl
  have c7 := kc_X9 (t := 17) h6 c6 (by omega)
  have t7_0 := gx (s := sX9) t6_0
  have t7_1 := gx (s := sX9) t6_1
  have t7_2 := gx (s := sX9) t6_2
  refine j_aast (N := 7) (NW := 9) dX10_init_57 rfl t7_1 t7_2 (show vp_in (nI 0) 7 from vp_in_nI (by decide) (by decide)) ?_
  have c8 := cl_p (t := 13) (f := 0) (x := 17) c7 (by rw [h7]; omega)
  refine j_iinc 1 (ls' := [.ref 12, .int 1]) dX10_init_58 rfl rfl (by decide) (Nat.le_of_ble_eq_true rfl) rfl ?_
  refine j_goto 39 dX10_init_61 (by decide) ?_
  refine j_iload_n dX10_init_39 rfl rfl ?_
  refine j_bipush 7 dX10_init_40 rfl (by decide) ?_
  refine j_icmp_ge 64 dX10_init_42 rfl (by decide) (fun h => absurd h (by decide)) (fun _ => ?_)
  refine j_aload_n dX10_init_45 rfl rfl ?_
  refine j_getR (ci := 10) (N := 11) (f := 3) (T := TX10) 13 dX10_init_46 rfl t7_0 rfl (by decide) fl_X10_11 rfl rfl ?_
  refine j_iload_n dX10_init_49 rfl rfl ?_
  refine k_new (g := 22) (ci := 9) (N := 9) (k' := 10) (n' := 110) h7 c8 (jSc_r (by omega) (jSc_i (jSc_i (jSc_r (by omega) jSc_0)))) (by omega) dX10_init_50 rfl rfl cl_X10_9 it_X9 in_X9 rfl rfl (Nat.le_of_ble_eq_true rfl) (Nat.le_of_ble_eq_true rfl) ?_
  have h9 := gl (s := [(14, 9)]) (m := 1) (g' := 23) h7 rfl rfl
  have c9 := cl_z (sh := (14, 9)) h7 c8
  have t9_0 := gx (s := [(14, 9)]) t7_0
  have t9_1 := gx (s := [(14, 9)]) t7_1
  have t9_2 := gw (s := [(14, 9)]) (i := 0) (sh := (14, 9)) h7 rfl
  refine j_dup dX10_init_53 rfl (fun _ _ => rfl) ?_
  refine j_cNA (as := []) (rest := [.ref 22, .int 1, .ref 13]) (mc := 4) (ms := 40) dX10_init_54 rfl vw_X10_29 rfl ⟨(Nat.le_of_ble_eq_true rfl), (Nat.le_of_ble_eq_true rfl)⟩ rfl rfl (fun _ _ => (Nat.le_of_ble_eq_true rfl)) hX (fun _ _ _ _ h => h) ⟨(Nat.le_of_ble_eq_true rfl), (Nat.le_of_ble_eq_true rfl)⟩ (jZg_A (by rw [h9]; omega)) (by rw [h9]; exact (jSc_r (by omega) (jSc_i (jSc_r (by omega) (jSc_i (jSc_r (by omega) jSc_0)))))) (n_X9 h9 t9_2 c9 (by omega) hX) ?_
  rintro _ _ _ ⟨rfl, rfl, rfl⟩
  have h10 := gl (s := sX9) (m := 4) (g' := 27) h9 rfl rfl
  have c10 := kc_X9 (t := 22) h9 c9 (by omega)
  have t10_0 := gx (s := sX9) t9_0
  have t10_1 := gx (s := sX9) t9_1
  have t10_2 := gx (s := sX9) t9_2
  refine j_aast (N := 7) (NW := 9) dX10_init_57 rfl t10_1 t10_2 (show vp_in (nI 1) 7 from vp_in_nI (by decide) (by decide)) ?_
  have c11 := cl_p (t := 13) (f := 1) (x := 22) c10 (by rw [h10]; omega)
  refine j_iinc 2 (ls' := [.ref 12, .int 2]) dX10_init_58 rfl rfl (by decide) (Nat.le_of_ble_eq_true rfl) rfl ?_
  refine j_goto 39 dX10_init_61 (by decide) ?_
  refine j_iload_n dX10_init_39 rfl rfl ?_
  refine j_bipush 7 dX10_init_40 rfl (by decide) ?_
  refine j_icmp_ge 64 dX10_init_42 rfl (by decide) (fun h => absurd h (by decide)) (fun _ => ?_)
  refine j_aload_n dX10_init_45 rfl rfl ?_
  refine j_getR (ci := 10) (N := 11) (f := 3) (T := TX10) 13 dX10_init_46 rfl t10_0 rfl (by decide) fl_X10_11 rfl rfl ?_
  refine j_iload_n dX10_init_49 rfl rfl ?_
  refine k_new (g := 27) (ci := 9) (N := 9) (k' := 15) (n' := 159) h10 c11 (jSc_r (by omega) (jSc_i (jSc_i (jSc_r (by omega) jSc_0)))) (by omega) dX10_init_50 rfl rfl cl_X10_9 it_X9 in_X9 rfl rfl (Nat.le_of_ble_eq_true rfl) (Nat.le_of_ble_eq_true rfl) ?_
  have h12 := gl (s := [(14, 9)]) (m := 1) (g' := 28) h10 rfl rfl
  have c12 := cl_z (sh := (14, 9)) h10 c11
  have t12_0 := gx (s := [(14, 9)]) t10_0
  have t12_1 := gx (s := [(14, 9)]) t10_1
  have t12_2 := gw (s := [(14, 9)]) (i := 0) (sh := (14, 9)) h10 rfl
  refine j_dup dX10_init_53 rfl (fun _ _ => rfl) ?_
  refine j_cNA (as := []) (rest := [.ref 27, .int 2, .ref 13]) (mc := 4) (ms := 40) dX10_init_54 rfl vw_X10_29 rfl ⟨(Nat.le_of_ble_eq_true rfl), (Nat.le_of_ble_eq_true rfl)⟩ rfl rfl (fun _ _ => (Nat.le_of_ble_eq_true rfl)) hX (fun _ _ _ _ h => h) ⟨(Nat.le_of_ble_eq_true rfl), (Nat.le_of_ble_eq_true rfl)⟩ (jZg_A (by rw [h12]; omega)) (by rw [h12]; exact (jSc_r (by omega) (jSc_i (jSc_r (by omega) (jSc_i (jSc_r (by omega) jSc_0)))))) (n_X9 h12 t12_2 c12 (by omega) hX) ?_
  rintro _ _ _ ⟨rfl, rfl, rfl⟩
  have h13 := gl (s := sX9) (m := 4) (g' := 32) h12 rfl rfl
  have c13 := kc_X9 (t := 27) h12 c12 (by omega)
  have t13_0 := gx (s := sX9) t12_0
  have t13_1 := gx (s := sX9) t12_1
  have t13_2 := gx (s := sX9) t12_2
  refine j_aast (N := 7) (NW := 9) dX10_init_57 rfl t13_1 t13_2 (show vp_in (nI 2) 7 from vp_in_nI (by decide) (by decide)) ?_
  have c14 := cl_p (t := 13) (f := 2) (x := 27) c13 (by rw [h13]; omega)
  refine j_iinc 3 (ls' := [.ref 12, .int 3]) dX10_init_58 rfl rfl (by decide) (Nat.le_of_ble_eq_true rfl) rfl ?_
  refine j_goto 39 dX10_init_61 (by decide) ?_
  refine j_iload_n dX10_init_39 rfl rfl ?_
  refine j_bipush 7 dX10_init_40 rfl (by decide) ?_
  refine j_icmp_ge 64 dX10_init_42 rfl (by decide) (fun h => absurd h (by decide)) (fun _ => ?_)
  refine j_aload_n dX10_init_45 rfl rfl ?_
  refine j_getR (ci := 10) (N := 11) (f := 3) (T := TX10) 13 dX10_init_46 rfl t13_0 rfl (by decide) fl_X10_11 rfl rfl ?_
  refine j_iload_n dX10_init_49 rfl rfl ?_
  refine k_new (g := 32) (ci := 9) (N := 9) (k' := 20) (n' := 208) h13 c14 (jSc_r (by omega) (jSc_i (jSc_i (jSc_r (by omega) jSc_0)))) (by omega) dX10_init_50 rfl rfl cl_X10_9 it_X9 in_X9 rfl rfl (Nat.le_of_ble_eq_true rfl) (Nat.le_of_ble_eq_true rfl) ?_
  have h15 := gl (s := [(14, 9)]) (m := 1) (g' := 33) h13 rfl rfl
  have c15 := cl_z (sh := (14, 9)) h13 c14
  have t15_0 := gx (s := [(14, 9)]) t13_0
  have t15_1 := gx (s := [(14, 9)]) t13_1
  have t15_2 := gw (s := [(14, 9)]) (i := 0) (sh := (14, 9)) h13 rfl
  refine j_dup dX10_init_53 rfl (fun _ _ => rfl) ?_
  refine j_cNA (as := []) (rest := [.ref 32, .int 3, .ref 13]) (mc := 4) (ms := 40) dX10_init_54 rfl vw_X10_29 rfl ⟨(Nat.le_of_ble_eq_true rfl), (Nat.le_of_ble_eq_true rfl)⟩ rfl rfl (fun _ _ => (Nat.le_of_ble_eq_true rfl)) hX (fun _ _ _ _ h => h) ⟨(Nat.le_of_ble_eq_true rfl), (Nat.le_of_ble_eq_true rfl)⟩ (jZg_A (by rw [h15]; omega)) (by rw [h15]; exact (jSc_r (by omega) (jSc_i (jSc_r (by omega) (jSc_i (jSc_r (by omega) jSc_0)))))) (n_X9 h15 t15_2 c15 (by omega) hX) ?_
  rintro _ _ _ ⟨rfl, rfl, rfl⟩
  have h16 := gl (s := sX9) (m := 4) (g' := 37) h15 rfl rfl
  have c16 := kc_X9 (t := 32) h15 c15 (by omega)
  have t16_0 := gx (s := sX9) t15_0
  have t16_1 := gx (s := sX9) t15_1
  have t16_2 := gx (s := sX9) t15_2
  refine j_aast (N := 7) (NW := 9) dX10_init_57 rfl t16_1 t16_2 (show vp_in (nI 3) 7 from vp_in_nI (by decide) (by decide)) ?_
  have c17 := cl_p (t := 13) (f := 3) (x := 32) c16 (by rw [h16]; omega)
  refine j_iinc 4 (ls' := [.ref 12, .int 4]) dX10_init_58 rfl rfl (by decide) (Nat.le_of_ble_eq_true rfl) rfl ?_
  refine j_goto 39 dX10_init_61 (by decide) ?_
  refine j_iload_n dX10_init_39 rfl rfl ?_
  refine j_bipush 7 dX10_init_40 rfl (by decide) ?_
  refine j_icmp_ge 64 dX10_init_42 rfl (by decide) (fun h => absurd h (by decide)) (fun _ => ?_)
  refine j_aload_n dX10_init_45 rfl rfl ?_
  refine j_getR (ci := 10) (N := 11) (f := 3) (T := TX10) 13 dX10_init_46 rfl t16_0 rfl (by decide) fl_X10_11 rfl rfl ?_
  refine j_iload_n dX10_init_49 rfl rfl ?_
  refine k_new (g := 37) (ci := 9) (N := 9) (k' := 25) (n' := 257) h16 c17 (jSc_r (by omega) (jSc_i (jSc_i (jSc_r (by omega) jSc_0)))) (by omega) dX10_init_50 rfl rfl cl_X10_9 it_X9 in_X9 rfl rfl (Nat.le_of_ble_eq_true rfl) (Nat.le_of_ble_eq_true rfl) ?_
  have h18 := gl (s := [(14, 9)]) (m := 1) (g' := 38) h16 rfl rfl
  have c18 := cl_z (sh := (14, 9)) h16 c17
  have t18_0 := gx (s := [(14, 9)]) t16_0
  have t18_1 := gx (s := [(14, 9)]) t16_1
  have t18_2 := gw (s := [(14, 9)]) (i := 0) (sh := (14, 9)) h16 rfl
  refine j_dup dX10_init_53 rfl (fun _ _ => rfl) ?_
  refine j_cNA (as := []) (rest := [.ref 37, .int 4, .ref 13]) (mc := 4) (ms := 40) dX10_init_54 rfl vw_X10_29 rfl ⟨(Nat.le_of_ble_eq_true rfl), (Nat.le_of_ble_eq_true rfl)⟩ rfl rfl (fun _ _ => (Nat.le_of_ble_eq_true rfl)) hX (fun _ _ _ _ h => h) ⟨(Nat.le_of_ble_eq_true rfl), (Nat.le_of_ble_eq_true rfl)⟩ (jZg_A (by rw [h18]; omega)) (by rw [h18]; exact (jSc_r (by omega) (jSc_i (jSc_r (by omega) (jSc_i (jSc_r (by omega) jSc_0)))))) (n_X9 h18 t18_2 c18 (by omega) hX) ?_
  rintro _ _ _ ⟨rfl, rfl, rfl⟩
  have h19 := gl (s := sX9) (m := 4) (g' := 42) h18 rfl rfl
  have c19 := kc_X9 (t := 37) h18 c18 (by omega)
  have t19_0 := gx (s := sX9) t18_0
  have t19_1 := gx (s := sX9) t18_1
  have t19_2 := gx (s := sX9) t18_2
  refine j_aast (N := 7) (NW := 9) dX10_init_57 rfl t19_1 t19_2 (show vp_in (nI 4) 7 from vp_in_nI (by decide) (by decide)) ?_
  have c20 := cl_p (t := 13) (f := 4) (x := 37) c19 (by rw [h19]; omega)
  refine j_iinc 5 (ls' := [.ref 12, .int 5]) dX10_init_58 rfl rfl (by decide) (Nat.le_of_ble_eq_true rfl) rfl ?_
  refine j_goto 39 dX10_init_61 (by decide) ?_
  refine j_iload_n dX10_init_39 rfl rfl ?_
  refine j_bipush 7 dX10_init_40 rfl (by decide) ?_
  refine j_icmp_ge 64 dX10_init_42 rfl (by decide) (fun h => absurd h (by decide)) (fun _ => ?_)
  refine j_aload_n dX10_init_45 rfl rfl ?_
  refine j_getR (ci := 10) (N := 11) (f := 3) (T := TX10) 13 dX10_init_46 rfl t19_0 rfl (by decide) fl_X10_11 rfl rfl ?_
  refine j_iload_n dX10_init_49 rfl rfl ?_
  refine k_new (g := 42) (ci := 9) (N := 9) (k' := 30) (n' := 306) h19 c20 (jSc_r (by omega) (jSc_i (jSc_i (jSc_r (by omega) jSc_0)))) (by omega) dX10_init_50 rfl rfl cl_X10_9 it_X9 in_X9 rfl rfl (Nat.le_of_ble_eq_true rfl) (Nat.le_of_ble_eq_true rfl) ?_
  have h21 := gl (s := [(14, 9)]) (m := 1) (g' := 43) h19 rfl rfl
  have c21 := cl_z (sh := (14, 9)) h19 c20
  have t21_0 := gx (s := [(14, 9)]) t19_0
  have t21_1 := gx (s := [(14, 9)]) t19_1
  have t21_2 := gw (s := [(14, 9)]) (i := 0) (sh := (14, 9)) h19 rfl
  refine j_dup dX10_init_53 rfl (fun _ _ => rfl) ?_
  refine j_cNA (as := []) (rest := [.ref 42, .int 5, .ref 13]) (mc := 4) (ms := 40) dX10_init_54 rfl vw_X10_29 rfl ⟨(Nat.le_of_ble_eq_true rfl), (Nat.le_of_ble_eq_true rfl)⟩ rfl rfl (fun _ _ => (Nat.le_of_ble_eq_true rfl)) hX (fun _ _ _ _ h => h) ⟨(Nat.le_of_ble_eq_true rfl), (Nat.le_of_ble_eq_true rfl)⟩ (jZg_A (by rw [h21]; omega)) (by rw [h21]; exact (jSc_r (by omega) (jSc_i (jSc_r (by omega) (jSc_i (jSc_r (by omega) jSc_0)))))) (n_X9 h21 t21_2 c21 (by omega) hX) ?_
  rintro _ _ _ ⟨rfl, rfl, rfl⟩
  have h22 := gl (s := sX9) (m := 4) (g' := 47) h21 rfl rfl
  have c22 := kc_X9 (t := 42) h21 c21 (by omega)
  have t22_0 := gx (s := sX9) t21_0
  have t22_1 := gx (s := sX9) t21_1
  have t22_2 := gx (s := sX9) t21_2
  refine j_aast (N := 7) (NW := 9) dX10_init_57 rfl t22_1 t22_2 (show vp_in (nI 5) 7 from vp_in_nI (by decide) (by decide)) ?_
  have c23 := cl_p (t := 13) (f := 5) (x := 42) c22 (by rw [h22]; omega)
  refine j_iinc 6 (ls' := [.ref 12, .int 6]) dX10_init_58 rfl rfl (by decide) (Nat.le_of_ble_eq_true rfl) rfl ?_
  refine j_goto 39 dX10_init_61 (by decide) ?_
  refine j_iload_n dX10_init_39 rfl rfl ?_
  refine j_bipush 7 dX10_init_40 rfl (by decide) ?_
  refine j_icmp_ge 64 dX10_init_42 rfl (by decide) (fun h => absurd h (by decide)) (fun _ => ?_)
  refine j_aload_n dX10_init_45 rfl rfl ?_
  refine j_getR (ci := 10) (N := 11) (f := 3) (T := TX10) 13 dX10_init_46 rfl t22_0 rfl (by decide) fl_X10_11 rfl rfl ?_
  refine j_iload_n dX10_init_49 rfl rfl ?_
  refine k_new (g := 47) (ci := 9) (N := 9) (k' := 35) (n' := 355) h22 c23 (jSc_r (by omega) (jSc_i (jSc_i (jSc_r (by omega) jSc_0)))) (by omega) dX10_init_50 rfl rfl cl_X10_9 it_X9 in_X9 rfl rfl (Nat.le_of_ble_eq_true rfl) (Nat.le_of_ble_eq_true rfl) ?_
  have h24 := gl (s := [(14, 9)]) (m := 1) (g' := 48) h22 rfl rfl
  have c24 := cl_z (sh := (14, 9)) h22 c23
  have t24_0 := gx (s := [(14, 9)]) t22_0
  have t24_1 := gx (s := [(14, 9)]) t22_1
  have t24_2 := gw (s := [(14, 9)]) (i := 0) (sh := (14, 9)) h22 rfl
  refine j_dup dX10_init_53 rfl (fun _ _ => rfl) ?_
  refine j_cNA (as := []) (rest := [.ref 47, .int 6, .ref 13]) (mc := 4) (ms := 40) dX10_init_54 rfl vw_X10_29 rfl ⟨(Nat.le_of_ble_eq_true rfl), (Nat.le_of_ble_eq_true rfl)⟩ rfl rfl (fun _ _ => (Nat.le_of_ble_eq_true rfl)) hX (fun _ _ _ _ h => h) ⟨(Nat.le_of_ble_eq_true rfl), (Nat.le_of_ble_eq_true rfl)⟩ (jZg_A (by rw [h24]; omega)) (by rw [h24]; exact (jSc_r (by omega) (jSc_i (jSc_r (by omega) (jSc_i (jSc_r (by omega) jSc_0)))))) (n_X9 h24 t24_2 c24 (by omega) hX) ?_
  rintro _ _ _ ⟨rfl, rfl, rfl⟩
  have h25 := gl (s := sX9) (m := 4) (g' := 52) h24 rfl rfl
  have c25 := kc_X9 (t := 47) h24 c24 (by omega)
  have t25_0 := gx (s := sX9) t24_0
  have t25_1 := gx (s := sX9) t24_1
  have t25_2 := gx (s := sX9) t24_2
  refine j_aast (N := 7) (NW := 9) dX10_init_57 rfl t25_1 t25_2 (show vp_in (nI 6) 7 from vp_in_nI (by decide) (by decide)) ?_
  have c26 := cl_p (t := 13) (f := 6) (x := 47) c25 (by rw [h25]; omega)
  refine j_iinc 7 (ls' := [.ref 12, .int 7]) dX10_init_58 rfl rfl (by decide) (Nat.le_of_ble_eq_true rfl) rfl ?_
  refine j_goto 39 dX10_init_61 (by decide) ?_
  refine j_iload_n dX10_init_39 rfl rfl ?_
  refine j_bipush 7 dX10_init_40 rfl (by decide) ?_
  refine j_icmp_ge 64 dX10_init_42 rfl (by decide) (fun _ => ?_) (fun h => absurd (by decide) h)
  exact j_vretA dX10_init_64 rfl ⟨rfl, (by first | (simp only [List.append_assoc, List.cons_append, List.nil_append]; rfl) | rfl), rfl⟩
theorem kc_X10 {G : jG} {μ : jM} (h0 : G.length = 13) (c0 : jCl G μ) (ht : 12 < 13) : jCl (G ++ sX10) (kX10 μ) := by
  have h1 := gl (s := [(4, 7)]) (m := 1) (g' := 14) h0 rfl rfl
  have c1 := cl_z (sh := (4, 7)) h0 c0
  have c2 := cl_p (t := 12) (f := 3) (x := 13) c1 (by rw [h1]; omega)
  have h3 := gl (s := [(0, 12)]) (m := 1) (g' := 15) h1 rfl rfl
  have c3 := cl_arr (sh := (0, 12)) (f := 8) h1 c2 (show 12 < 14 by omega)
  have h4 := gl (s := [(0, 9)]) (m := 1) (g' := 16) h3 rfl rfl
  have c4 := cl_arr (sh := (0, 9)) (f := 9) h3 c3 (show 12 < 15 by omega)
  have h5 := gl (s := [(0, 24)]) (m := 1) (g' := 17) h4 rfl rfl
  have c5 := cl_arr (sh := (0, 24)) (f := 10) h4 c4 (show 12 < 16 by omega)
  have h6 := gl (s := [(14, 9)]) (m := 1) (g' := 18) h5 rfl rfl
  have c6 := cl_z (sh := (14, 9)) h5 c5
  have h7 := gl (s := sX9) (m := 4) (g' := 22) h6 rfl rfl
  have c7 := kc_X9 (t := 17) h6 c6 (by omega)
  have c8 := cl_p (t := 13) (f := 0) (x := 17) c7 (by rw [h7]; omega)
  have h9 := gl (s := [(14, 9)]) (m := 1) (g' := 23) h7 rfl rfl
  have c9 := cl_z (sh := (14, 9)) h7 c8
  have h10 := gl (s := sX9) (m := 4) (g' := 27) h9 rfl rfl
  have c10 := kc_X9 (t := 22) h9 c9 (by omega)
  have c11 := cl_p (t := 13) (f := 1) (x := 22) c10 (by rw [h10]; omega)
  have h12 := gl (s := [(14, 9)]) (m := 1) (g' := 28) h10 rfl rfl
  have c12 := cl_z (sh := (14, 9)) h10 c11
  have h13 := gl (s := sX9) (m := 4) (g' := 32) h12 rfl rfl
  have c13 := kc_X9 (t := 27) h12 c12 (by omega)
  have c14 := cl_p (t := 13) (f := 2) (x := 27) c13 (by rw [h13]; omega)
  have h15 := gl (s := [(14, 9)]) (m := 1) (g' := 33) h13 rfl rfl
  have c15 := cl_z (sh := (14, 9)) h13 c14
  have h16 := gl (s := sX9) (m := 4) (g' := 37) h15 rfl rfl
  have c16 := kc_X9 (t := 32) h15 c15 (by omega)
  have c17 := cl_p (t := 13) (f := 3) (x := 32) c16 (by rw [h16]; omega)
  have h18 := gl (s := [(14, 9)]) (m := 1) (g' := 38) h16 rfl rfl
  have c18 := cl_z (sh := (14, 9)) h16 c17
  have h19 := gl (s := sX9) (m := 4) (g' := 42) h18 rfl rfl
  have c19 := kc_X9 (t := 37) h18 c18 (by omega)
  have c20 := cl_p (t := 13) (f := 4) (x := 37) c19 (by rw [h19]; omega)
  have h21 := gl (s := [(14, 9)]) (m := 1) (g' := 43) h19 rfl rfl
  have c21 := cl_z (sh := (14, 9)) h19 c20
  have h22 := gl (s := sX9) (m := 4) (g' := 47) h21 rfl rfl
  have c22 := kc_X9 (t := 42) h21 c21 (by omega)
  have c23 := cl_p (t := 13) (f := 5) (x := 42) c22 (by rw [h22]; omega)
  have h24 := gl (s := [(14, 9)]) (m := 1) (g' := 48) h22 rfl rfl
  have c24 := cl_z (sh := (14, 9)) h22 c23
  have h25 := gl (s := sX9) (m := 4) (g' := 52) h24 rfl rfl
  have c25 := kc_X9 (t := 47) h24 c24 (by omega)
  have c26 := cl_p (t := 13) (f := 6) (x := 47) c25 (by rw [h25]; omega)
  have e : G ++ sX10 = G ++ [(4, 7)] ++ [(0, 12)] ++ [(0, 9)] ++ [(0, 24)] ++ [(14, 9)] ++ sX9 ++ [(14, 9)] ++ sX9 ++ [(14, 9)] ++ sX9 ++ [(14, 9)] ++ sX9 ++ [(14, 9)] ++ sX9 ++ [(14, 9)] ++ sX9 ++ [(14, 9)] ++ sX9 := by first | (simp only [List.append_assoc, List.cons_append, List.nil_append]; rfl) | rfl
  rw [e]
  exact c26
def kX1 (μ : jM) : jM := (wP (wP (wP (z0 (wP (z0 (wP (z0 (wP (kX5 (z0 (wI μ 57 2 (-1)) 58) 58 59) 57 5 (some 58)) 60) 57 6 (some 60)) 61) 57 7 (some 61)) 62) 57 8 (some 62)) 57 3 (some 12)) 57 4 (some 52))
def sX1 : jG := [(10, 1), (0, 71), (0, 16), (0, 16), (0, 7)]
theorem n_X1 {l : Launch} {G : jG} {μ : jM} {X : jEX} (h0 : G.length = 58) (t0 : G[57]? = some (6, 9)) (c0 : jCl G μ) (ht : 57 < 58) (hX : jXs X) : jCA l mX1_init 2 5 111 G [.ref 57, .ref 12, .ref 52] μ (fun r μ' G' => r = none ∧ G' = G ++ sX1 ∧ μ' = kX1 μ) X := by
  refine jCA.of (ls := [.ref 57, .ref 12, .ref 52]) rfl rfl (jnd_ok rfl) (fun _ _ => (Nat.le_of_ble_eq_true rfl)) ?_
  rw [h0]
  refine j_aload_n dX1_init_0 rfl rfl ?_
  refine j_objInit dX1_init_1 rfl ml_X1_3 im_obj co_obj ⟨(Nat.le_of_ble_eq_true rfl), (Nat.le_of_ble_eq_true rfl)⟩ rfl ?_
  refine j_aload_n dX1_init_4 rfl rfl ?_
  refine j_iconst (-1) dX1_init_5 rfl (by decide) ?_
  refine j_putI (ci := 1) (N := 9) (f := 2) (T := TX1) dX1_init_6 rfl t0 rfl (by decide) fl_X1_9 rfl rfl ?_
  have c1 := cl_i (t := 57) (f := 2) (x := (-1)) c0
  refine j_aload_n dX1_init_9 rfl rfl ?_
  refine k_new (g := 58) (ci := 5) (N := 1) (k' := 1) (n' := 1) h0 c1 (jSc_r (by omega) (jSc_r (by omega) (jSc_r (by omega) (jSc_r (by omega) jSc_0)))) (by omega) dX1_init_10 rfl rfl cl_X1_15 it_X5 in_X5 rfl rfl (Nat.le_of_ble_eq_true rfl) (Nat.le_of_ble_eq_true rfl) ?_
  have h2 := gl (s := [(10, 1)]) (m := 1) (g' := 59) h0 rfl rfl
  have c2 := cl_z (sh := (10, 1)) h0 c1
  have t2_0 := gx (s := [(10, 1)]) t0
  have t2_1 := gw (s := [(10, 1)]) (i := 0) (sh := (10, 1)) h0 rfl
  refine j_dup dX1_init_13 rfl (fun _ _ => rfl) ?_
  refine j_cNA (as := []) (rest := [.ref 58, .ref 57]) (mc := 1) (ms := 71) dX1_init_14 rfl vw_X1_17 rfl ⟨(Nat.le_of_ble_eq_true rfl), (Nat.le_of_ble_eq_true rfl)⟩ rfl rfl (fun _ _ => (Nat.le_of_ble_eq_true rfl)) hX (fun _ _ _ _ h => h) ⟨(Nat.le_of_ble_eq_true rfl), (Nat.le_of_ble_eq_true rfl)⟩ (jZg_A (by rw [h2]; omega)) (by rw [h2]; exact (jSc_r (by omega) (jSc_r (by omega) (jSc_r (by omega) (jSc_r (by omega) (jSc_r (by omega) jSc_0)))))) (n_X5 h2 t2_1 c2 (by omega) hX) ?_
  rintro _ _ _ ⟨rfl, rfl, rfl⟩
  have h3 := gl (s := sX5) (m := 1) (g' := 60) h2 rfl rfl
  have c3 := kc_X5 (t := 58) h2 c2 (by omega)
  have t3_0 := gx (s := sX5) t2_0
  have t3_1 := gx (s := sX5) t2_1
  refine j_putFR (ci := 1) (N := 9) (f := 5) (T := TX1) dX1_init_17 rfl t3_0 rfl (by decide) fl_X1_18 rfl rfl rfl rfl ?_
  have c4 := cl_p (t := 57) (f := 5) (x := 58) c3 (by rw [h3]; omega)
  refine j_aload_n dX1_init_20 rfl rfl ?_
  refine j_bipush 16 dX1_init_21 rfl (by decide) ?_
  refine k_arr (g := 60) (t := 57) (f := 6) (ci := 1) (NF := 9) (T := TX1) (kd := 0) (N := 16) (k' := 3) (n' := 88) h3 c4 (jSc_r (by omega) (jSc_r (by omega) (jSc_r (by omega) jSc_0))) (by omega) dX1_init_23 dX1_init_25 rfl rfl (Or.inl ⟨rfl, rfl⟩) ac_int (by decide) rfl (by decide) rfl rfl (Nat.le_of_ble_eq_true rfl) (Nat.le_of_ble_eq_true rfl) t3_0 rfl (by decide) fl_X1_22 rfl rfl rfl rfl ?_
  have h5 := gl (s := [(0, 16)]) (m := 1) (g' := 61) h3 rfl rfl
  have c5 := cl_arr (sh := (0, 16)) (f := 6) h3 c4 (show 57 < 60 by omega)
  have t5_0 := gx (s := [(0, 16)]) t3_0
  refine j_aload_n dX1_init_28 rfl rfl ?_
  refine j_bipush 16 dX1_init_29 rfl (by decide) ?_
  refine k_arr (g := 61) (t := 57) (f := 7) (ci := 1) (NF := 9) (T := TX1) (kd := 0) (N := 16) (k' := 4) (n' := 104) h5 c5 (jSc_r (by omega) (jSc_r (by omega) (jSc_r (by omega) jSc_0))) (by omega) dX1_init_31 dX1_init_33 rfl rfl (Or.inl ⟨rfl, rfl⟩) ac_int (by decide) rfl (by decide) rfl rfl (Nat.le_of_ble_eq_true rfl) (Nat.le_of_ble_eq_true rfl) t5_0 rfl (by decide) fl_X1_26 rfl rfl rfl rfl ?_
  have h6 := gl (s := [(0, 16)]) (m := 1) (g' := 62) h5 rfl rfl
  have c6 := cl_arr (sh := (0, 16)) (f := 7) h5 c5 (show 57 < 61 by omega)
  have t6_0 := gx (s := [(0, 16)]) t5_0
  refine j_aload_n dX1_init_36 rfl rfl ?_
  refine j_bipush 7 dX1_init_37 rfl (by decide) ?_
  refine k_arr (g := 62) (t := 57) (f := 8) (ci := 1) (NF := 9) (T := TX1) (kd := 0) (N := 7) (k' := 5) (n' := 111) h6 c6 (jSc_r (by omega) (jSc_r (by omega) (jSc_r (by omega) jSc_0))) (by omega) dX1_init_39 dX1_init_41 rfl rfl (Or.inl ⟨rfl, rfl⟩) ac_int (by decide) rfl (by decide) rfl rfl (Nat.le_of_ble_eq_true rfl) (Nat.le_of_ble_eq_true rfl) t6_0 rfl (by decide) fl_X1_29 rfl rfl rfl rfl ?_
  have h7 := gl (s := [(0, 7)]) (m := 1) (g' := 63) h6 rfl rfl
  have c7 := cl_arr (sh := (0, 7)) (f := 8) h6 c6 (show 57 < 62 by omega)
  have t7_0 := gx (s := [(0, 7)]) t6_0
  refine j_aload_n dX1_init_44 rfl rfl ?_
  refine j_aload_n dX1_init_45 rfl rfl ?_
  refine j_putFR (ci := 1) (N := 9) (f := 3) (T := TX1) dX1_init_46 rfl t7_0 rfl (by decide) fl_X1_32 rfl rfl rfl rfl ?_
  have c8 := cl_p (t := 57) (f := 3) (x := 12) c7 (by rw [h7]; omega)
  refine j_aload_n dX1_init_49 rfl rfl ?_
  refine j_aload_n dX1_init_50 rfl rfl ?_
  refine j_putFR (ci := 1) (N := 9) (f := 4) (T := TX1) dX1_init_51 rfl t7_0 rfl (by decide) fl_X1_36 rfl rfl rfl rfl ?_
  have c9 := cl_p (t := 57) (f := 4) (x := 52) c8 (by rw [h7]; omega)
  exact j_vretA dX1_init_54 rfl ⟨rfl, (by first | (simp only [List.append_assoc, List.cons_append, List.nil_append]; rfl) | rfl), rfl⟩
theorem kc_X1 {G : jG} {μ : jM} (h0 : G.length = 58) (c0 : jCl G μ) (ht : 57 < 58) : jCl (G ++ sX1) (kX1 μ) := by
  have c1 := cl_i (t := 57) (f := 2) (x := (-1)) c0
  have h2 := gl (s := [(10, 1)]) (m := 1) (g' := 59) h0 rfl rfl
  have c2 := cl_z (sh := (10, 1)) h0 c1
  have h3 := gl (s := sX5) (m := 1) (g' := 60) h2 rfl rfl
  have c3 := kc_X5 (t := 58) h2 c2 (by omega)
  have c4 := cl_p (t := 57) (f := 5) (x := 58) c3 (by rw [h3]; omega)
  have h5 := gl (s := [(0, 16)]) (m := 1) (g' := 61) h3 rfl rfl
  have c5 := cl_arr (sh := (0, 16)) (f := 6) h3 c4 (show 57 < 60 by omega)
  have h6 := gl (s := [(0, 16)]) (m := 1) (g' := 62) h5 rfl rfl
  have c6 := cl_arr (sh := (0, 16)) (f := 7) h5 c5 (show 57 < 61 by omega)
  have h7 := gl (s := [(0, 7)]) (m := 1) (g' := 63) h6 rfl rfl
  have c7 := cl_arr (sh := (0, 7)) (f := 8) h6 c6 (show 57 < 62 by omega)
  have c8 := cl_p (t := 57) (f := 3) (x := 12) c7 (by rw [h7]; omega)
  have c9 := cl_p (t := 57) (f := 4) (x := 52) c8 (by rw [h7]; omega)
  have e : G ++ sX1 = G ++ [(10, 1)] ++ sX5 ++ [(0, 16)] ++ [(0, 16)] ++ [(0, 7)] := by first | (simp only [List.append_assoc, List.cons_append, List.nil_append]; rfl) | rfl
  rw [e]
  exact c9
def kX0 (μ : jM) : jM := (wP (wP (z0 (wP (z0 (wP (z0 (wP (z0 (wP (kX5 (z0 μ 64) 64 65) 63 2 (some 64)) 66) 63 3 (some 66)) 67) 63 4 (some 67)) 68) 63 5 (some 68)) 69) 63 9 (some 69)) 63 1 (some 12))
def sX0 : jG := [(10, 1), (0, 71), (0, 20), (0, 20), (0, 20), (0, 12)]
theorem n_X0 {l : Launch} {G : jG} {μ : jM} {X : jEX} (h0 : G.length = 64) (t0 : G[63]? = some (5, 10)) (c0 : jCl G μ) (ht : 63 < 64) (hX : jXs X) : jCA l mX0_init 2 6 144 G [.ref 63, .ref 12] μ (fun r μ' G' => r = none ∧ G' = G ++ sX0 ∧ μ' = kX0 μ) X := by
  refine jCA.of (ls := [.ref 63, .ref 12]) rfl rfl (jnd_ok rfl) (fun _ _ => (Nat.le_of_ble_eq_true rfl)) ?_
  rw [h0]
  refine j_aload_n dX0_init_0 rfl rfl ?_
  refine j_objInit dX0_init_1 rfl ml_X0_3 im_obj co_obj ⟨(Nat.le_of_ble_eq_true rfl), (Nat.le_of_ble_eq_true rfl)⟩ rfl ?_
  refine j_aload_n dX0_init_4 rfl rfl ?_
  refine k_new (g := 64) (ci := 5) (N := 1) (k' := 1) (n' := 1) h0 c0 (jSc_r (by omega) (jSc_r (by omega) (jSc_r (by omega) jSc_0))) (by omega) dX0_init_5 rfl rfl cl_X0_9 it_X5 in_X5 rfl rfl (Nat.le_of_ble_eq_true rfl) (Nat.le_of_ble_eq_true rfl) ?_
  have h1 := gl (s := [(10, 1)]) (m := 1) (g' := 65) h0 rfl rfl
  have c1 := cl_z (sh := (10, 1)) h0 c0
  have t1_0 := gx (s := [(10, 1)]) t0
  have t1_1 := gw (s := [(10, 1)]) (i := 0) (sh := (10, 1)) h0 rfl
  refine j_dup dX0_init_8 rfl (fun _ _ => rfl) ?_
  refine j_cNA (as := []) (rest := [.ref 64, .ref 63]) (mc := 1) (ms := 71) dX0_init_9 rfl vw_X0_11 rfl ⟨(Nat.le_of_ble_eq_true rfl), (Nat.le_of_ble_eq_true rfl)⟩ rfl rfl (fun _ _ => (Nat.le_of_ble_eq_true rfl)) hX (fun _ _ _ _ h => h) ⟨(Nat.le_of_ble_eq_true rfl), (Nat.le_of_ble_eq_true rfl)⟩ (jZg_A (by rw [h1]; omega)) (by rw [h1]; exact (jSc_r (by omega) (jSc_r (by omega) (jSc_r (by omega) (jSc_r (by omega) jSc_0))))) (n_X5 h1 t1_1 c1 (by omega) hX) ?_
  rintro _ _ _ ⟨rfl, rfl, rfl⟩
  have h2 := gl (s := sX5) (m := 1) (g' := 66) h1 rfl rfl
  have c2 := kc_X5 (t := 64) h1 c1 (by omega)
  have t2_0 := gx (s := sX5) t1_0
  have t2_1 := gx (s := sX5) t1_1
  refine j_putFR (ci := 0) (N := 10) (f := 2) (T := TX0) dX0_init_12 rfl t2_0 rfl (by decide) fl_X0_12 rfl rfl rfl rfl ?_
  have c3 := cl_p (t := 63) (f := 2) (x := 64) c2 (by rw [h2]; omega)
  refine j_aload_n dX0_init_15 rfl rfl ?_
  refine j_bipush 20 dX0_init_16 rfl (by decide) ?_
  refine k_arr (g := 66) (t := 63) (f := 3) (ci := 0) (NF := 10) (T := TX0) (kd := 0) (N := 20) (k' := 3) (n' := 92) h2 c3 (jSc_r (by omega) (jSc_r (by omega) jSc_0)) (by omega) dX0_init_18 dX0_init_20 rfl rfl (Or.inl ⟨rfl, rfl⟩) ac_int (by decide) rfl (by decide) rfl rfl (Nat.le_of_ble_eq_true rfl) (Nat.le_of_ble_eq_true rfl) t2_0 rfl (by decide) fl_X0_18 rfl rfl rfl rfl ?_
  have h4 := gl (s := [(0, 20)]) (m := 1) (g' := 67) h2 rfl rfl
  have c4 := cl_arr (sh := (0, 20)) (f := 3) h2 c3 (show 63 < 66 by omega)
  have t4_0 := gx (s := [(0, 20)]) t2_0
  refine j_aload_n dX0_init_23 rfl rfl ?_
  refine j_bipush 20 dX0_init_24 rfl (by decide) ?_
  refine k_arr (g := 67) (t := 63) (f := 4) (ci := 0) (NF := 10) (T := TX0) (kd := 0) (N := 20) (k' := 4) (n' := 112) h4 c4 (jSc_r (by omega) (jSc_r (by omega) jSc_0)) (by omega) dX0_init_26 dX0_init_28 rfl rfl (Or.inl ⟨rfl, rfl⟩) ac_int (by decide) rfl (by decide) rfl rfl (Nat.le_of_ble_eq_true rfl) (Nat.le_of_ble_eq_true rfl) t4_0 rfl (by decide) fl_X0_22 rfl rfl rfl rfl ?_
  have h5 := gl (s := [(0, 20)]) (m := 1) (g' := 68) h4 rfl rfl
  have c5 := cl_arr (sh := (0, 20)) (f := 4) h4 c4 (show 63 < 67 by omega)
  have t5_0 := gx (s := [(0, 20)]) t4_0
  refine j_aload_n dX0_init_31 rfl rfl ?_
  refine j_bipush 20 dX0_init_32 rfl (by decide) ?_
  refine k_arr (g := 68) (t := 63) (f := 5) (ci := 0) (NF := 10) (T := TX0) (kd := 0) (N := 20) (k' := 5) (n' := 132) h5 c5 (jSc_r (by omega) (jSc_r (by omega) jSc_0)) (by omega) dX0_init_34 dX0_init_36 rfl rfl (Or.inl ⟨rfl, rfl⟩) ac_int (by decide) rfl (by decide) rfl rfl (Nat.le_of_ble_eq_true rfl) (Nat.le_of_ble_eq_true rfl) t5_0 rfl (by decide) fl_X0_25 rfl rfl rfl rfl ?_
  have h6 := gl (s := [(0, 20)]) (m := 1) (g' := 69) h5 rfl rfl
  have c6 := cl_arr (sh := (0, 20)) (f := 5) h5 c5 (show 63 < 68 by omega)
  have t6_0 := gx (s := [(0, 20)]) t5_0
  refine j_aload_n dX0_init_39 rfl rfl ?_
  refine j_bipush 12 dX0_init_40 rfl (by decide) ?_
  refine k_arr (g := 69) (t := 63) (f := 9) (ci := 0) (NF := 10) (T := TX0) (kd := 0) (N := 12) (k' := 6) (n' := 144) h6 c6 (jSc_r (by omega) (jSc_r (by omega) jSc_0)) (by omega) dX0_init_42 dX0_init_44 rfl rfl (Or.inl ⟨rfl, rfl⟩) ac_int (by decide) rfl (by decide) rfl rfl (Nat.le_of_ble_eq_true rfl) (Nat.le_of_ble_eq_true rfl) t6_0 rfl (by decide) fl_X0_28 rfl rfl rfl rfl ?_
  have h7 := gl (s := [(0, 12)]) (m := 1) (g' := 70) h6 rfl rfl
  have c7 := cl_arr (sh := (0, 12)) (f := 9) h6 c6 (show 63 < 69 by omega)
  have t7_0 := gx (s := [(0, 12)]) t6_0
  refine j_aload_n dX0_init_47 rfl rfl ?_
  refine j_aload_n dX0_init_48 rfl rfl ?_
  refine j_putFR (ci := 0) (N := 10) (f := 1) (T := TX0) dX0_init_49 rfl t7_0 rfl (by decide) fl_X0_31 rfl rfl rfl rfl ?_
  have c8 := cl_p (t := 63) (f := 1) (x := 12) c7 (by rw [h7]; omega)
  exact j_vretA dX0_init_52 rfl ⟨rfl, (by first | (simp only [List.append_assoc, List.cons_append, List.nil_append]; rfl) | rfl), rfl⟩
theorem kc_X0 {G : jG} {μ : jM} (h0 : G.length = 64) (c0 : jCl G μ) (ht : 63 < 64) : jCl (G ++ sX0) (kX0 μ) := by
  have h1 := gl (s := [(10, 1)]) (m := 1) (g' := 65) h0 rfl rfl
  have c1 := cl_z (sh := (10, 1)) h0 c0
  have h2 := gl (s := sX5) (m := 1) (g' := 66) h1 rfl rfl
  have c2 := kc_X5 (t := 64) h1 c1 (by omega)
  have c3 := cl_p (t := 63) (f := 2) (x := 64) c2 (by rw [h2]; omega)
  have h4 := gl (s := [(0, 20)]) (m := 1) (g' := 67) h2 rfl rfl
  have c4 := cl_arr (sh := (0, 20)) (f := 3) h2 c3 (show 63 < 66 by omega)
  have h5 := gl (s := [(0, 20)]) (m := 1) (g' := 68) h4 rfl rfl
  have c5 := cl_arr (sh := (0, 20)) (f := 4) h4 c4 (show 63 < 67 by omega)
  have h6 := gl (s := [(0, 20)]) (m := 1) (g' := 69) h5 rfl rfl
  have c6 := cl_arr (sh := (0, 20)) (f := 5) h5 c5 (show 63 < 68 by omega)
  have h7 := gl (s := [(0, 12)]) (m := 1) (g' := 70) h6 rfl rfl
  have c7 := cl_arr (sh := (0, 12)) (f := 9) h6 c6 (show 63 < 69 by omega)
  have c8 := cl_p (t := 63) (f := 1) (x := 12) c7 (by rw [h7]; omega)
  have e : G ++ sX0 = G ++ [(10, 1)] ++ sX5 ++ [(0, 20)] ++ [(0, 20)] ++ [(0, 20)] ++ [(0, 12)] := by first | (simp only [List.append_assoc, List.cons_append, List.nil_append]; rfl) | rfl
  rw [e]
  exact c8
