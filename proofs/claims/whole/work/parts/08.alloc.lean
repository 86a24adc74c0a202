/-! NEW CELLS -/
def jSc (g : Nat) (vs : List Value) : Prop := ∀ v ∈ vs, ∀ x, v = .ref x → x < g
def jCl (G : jG) (μ : jM) : Prop := ∀ a f x, a < G.length → μ.2.2 a f = some x → x < G.length
def jZg (Z : jZ) (g : Nat) : Prop := ∀ ad0 ad ad', Z.2.2.2 ad0 ad → (∀ q, q < g → ad' q = ad q) → Z.2.2.2 ad0 ad'
theorem jZg_A {d mc ms g0 g : Nat} {post : Option Value → jM → jG → Prop} {X : jEX} (h : g0 ≤ g) : jZg (jZA d mc ms g0 post X) g := fun _ _ _ h1 h2 q hq => (h2 q (by omega)).trans (h1 q hq)
theorem jtr_sc {ad ad' : Nat → Nat} {b g : Nat} {v : Value} (h : ∀ q, q < g → ad' q = ad q) (hv : ∀ x, v = .ref x → x < g) : jtr ad' b v = jtr ad b v := by
  cases v with
  | ref x => simp [jtr, h x (hv x rfl)]
  | _ => rfl
theorem jtr_scL {ad ad' : Nat → Nat} {b g : Nat} {vs : List Value} (h : ∀ q, q < g → ad' q = ad q) (hv : jSc g vs) : vs.map (jtr ad' b) = vs.map (jtr ad b) :=
  List.map_congr_left fun v hm => jtr_sc h (hv v hm)
theorem jL_sc {sl : Array Slot} {nL b g : Nat} {ad ad' : Nat → Nat} {ls : List Value} (h : ∀ q, q < g → ad' q = ad q) (hv : jSc g ls) (hL : jL sl nL ad b ls) : jL sl nL ad' b ls :=
  ⟨hL.1, hL.2.1, fun i v hi hn => by rw [jtr_sc h (hv v (List.mem_of_getElem? hi))]; exact hL.2.2 i v hi hn⟩
theorem jE_sc {cA : Nat → ClassId} {ad ad' : Nat → Nat} {μ : jM} {a g : Nat} {sh : Nat × Nat} (h : ∀ q, q < g → ad' q = ad q) (hv : ∀ f x, μ.2.2 a f = some x → x < g) : jE cA ad' μ a sh = jE cA ad μ a sh := by
  have e0 : ∀ f, (μ.2.2 a f).map ad' = (μ.2.2 a f).map ad := fun f => by
    cases hx : μ.2.2 a f with
    | none => rfl
    | some x => simp [h x (hv f x hx)]
  have e1 : jA ad' μ sh.1 sh.2 a = jA ad μ sh.1 sh.2 a := by
    unfold jA; split <;> simp [e0]
  have e2 : jfs ad' μ (sh.1 - 5) a sh.2 = jfs ad μ (sh.1 - 5) a sh.2 := by
    unfold jfs; congr 1; funext f; unfold jfv; split <;> simp [e0]
  unfold jE; rw [e1, e2]
theorem z0_off {cA : Nat → ClassId} {ad : Nat → Nat} {μ : jM} {a : Nat} : ∀ c, c ≠ a → ∀ q, jE cA ad (z0 μ a) c q = jE cA ad μ c q := fun c h q => jE_off (by simp [z0, h]) (by simp [z0, h]) (by simp [z0, h])
theorem jW_push {G : jG} {cA : Nat → ClassId} {ad : Nat → Nat} {μ : jM} {sh : Nat × Nat} {x : Nat} (hc : jCl G μ) : jW G cA ad μ ++ [(x, jE cA (fun q => if q = G.length then x else ad q) (z0 μ G.length) G.length sh)] = jW (G ++ [sh]) cA (fun q => if q = G.length then x else ad q) (z0 μ G.length) := by
  apply List.ext_getElem?
  intro i
  have hl : (jW G cA ad μ).length = G.length := by rw [jW, List.length_mapIdx]
  rw [jW, jW, List.getElem?_mapIdx]
  by_cases hi : i < G.length
  · rw [List.getElem?_append_left (by rw [List.length_mapIdx]; exact hi), List.getElem?_append_left hi, List.getElem?_mapIdx]
    have hg : G[i]? = some G[i] := List.getElem?_eq_getElem hi
    rw [hg]
    simp only [Option.map_some]
    rw [z0_off i (by omega), jE_sc (ad' := fun q => if q = G.length then x else ad q) (ad := ad) (g := G.length) (fun q hq => if_neg (by omega)) (fun f y hy => hc i f y hi hy), if_neg (by omega)]
  · by_cases he : i = G.length
    · subst he
      rw [List.getElem?_append_right (by rw [List.length_mapIdx]; exact Nat.le_refl _), List.getElem?_append_right (Nat.le_refl _), List.length_mapIdx]
      simp
    · rw [List.getElem?_eq_none (by simp; omega), List.getElem?_eq_none (by simp; omega)]
      rfl
section JNew
variable {l : Launch} {M : jMt} {Z : jZ} {G : jG} {k n pc q : Nat} {ls st : List Value} {μ : jM}
theorem j_newa {atype : ArrayType} {ty : FieldType} {kd N : Nat} {i : Int32} (hd : decode M.2.1 pc = .ok (.newarray atype, 2)) (hq : pc + 2 = q) (hty : newarray.typeOf atype = ty) (hkt : (kd = 0 ∧ ty = .int) ∨ (kd = 1 ∧ ty = .byte) ∨ (kd = 2 ∧ ty = .boolean) ∨ (kd = 3 ∧ ty = .long)) (harr : Cond.arrayClass ty ∈ jtbl) (hi : ¬ i < 0) (hN : i.toNatClampNeg = N) (hby : N ≤ 10000000) (hce : k + 1 ≤ Z.1.cells) (hsl : n + N ≤ Z.1.slots)
    (hZ : jZg Z G.length) (hsc : jSc G.length (ls ++ st)) (hcl : jCl G μ) (K : J l M Z (G ++ [(kd, N)]) (k + 1) (n + N) q ls (.ref G.length :: st) (z0 μ G.length)) : J l M Z G k n pc ls (.int i :: st) μ := by
  intro p e s m args below meth c D cA ad0 ad A b H locs sl ok ex hAD hcs hR hL
  subst hq
  have hkd : (jtys cA)[kd]? = some (cA kd, ty) ∧ kd < 5 := by rcases hkt with ⟨rfl, rfl⟩ | ⟨rfl, rfl⟩ | ⟨rfl, rfl⟩ | ⟨rfl, rfl⟩ <;> exact ⟨rfl, by decide⟩
  have hb : N * componentBytes ty ≤ 536870912 := by rcases hkt with ⟨rfl, rfl⟩ | ⟨rfl, rfl⟩ | ⟨rfl, rfl⟩ | ⟨rfl, rfl⟩ <;> simp [componentBytes] <;> omega
  have hcell : ∀ (ad' : Nat → Nat) (cA' : ClassId), vp_cell cA' (jA ad' (z0 μ G.length) kd N G.length) = arrV cA' N (fun _ => defaultValue ty) := by
    intro ad' cA'
    rcases hkt with ⟨rfl, rfl⟩ | ⟨rfl, rfl⟩ | ⟨rfl, rfl⟩ | ⟨rfl, rfl⟩ <;> simp [jA, z0, vp_cell, defaultValue]
  refine va_newa (a0 := jA ad (z0 μ G.length) kd N G.length) ok.1 ok.2.1 (by rw [hty]; exact ok.2.2.2.2.2.1 _ harr) hty hR.2.1.1 hR.2.2.1 hR.2.2.2.1 hR.2.2.2.2 hR.1 (hcell ad) hi hN hb hce hsl hd (fun x cA' H1 hK' hP' hD' hS' => ?_)
  have hcc : cA' = cA kd := by
    have h1 := (hK'.2 (jtys cA).length (cA', ty) (by rw [List.getElem?_append_right (Nat.le_refl _)]; simp)).2
    have h2 := (hR.2.1.1.2 kd _ hkd.1).2
    rcases hkt with ⟨rfl, rfl⟩ | ⟨rfl, rfl⟩ | ⟨rfl, rfl⟩ | ⟨rfl, rfl⟩ <;> exact Option.some.inj (h1.symm.trans h2)
  subst hcc
  have hE : ((x, .inl (cA kd, jA ad (z0 μ G.length) kd N G.length)) : Nat × va_E) = (x, jE cA (fun q => if q = G.length then x else ad q) (z0 μ G.length) G.length (kd, N)) := by
    rcases hkt with ⟨rfl, rfl⟩ | ⟨rfl, rfl⟩ | ⟨rfl, rfl⟩ | ⟨rfl, rfl⟩ <;> rfl
  rw [hE, jW_push hcl] at hP' hD'
  have hag : ∀ q, q < G.length → (fun q => if q = G.length then x else ad q) q = ad q := fun q hq => by simp [show q ≠ G.length by omega]
  have key := K p e s m args below meth c D cA ad0 (fun q => if q = G.length then x else ad q) A b H1 locs sl ok ex (hZ _ _ _ hAD hag) ⟨hce, hsl⟩ ⟨hR.1, hR.2.1, hP', hD', hS'⟩ (jL_sc hag (fun v hv => hsc v (List.mem_append_left _ hv)) hL)
  rw [List.map_cons, jtr_scL hag (fun v hv => hsc v (List.mem_append_right _ hv))] at key
  simpa [jtr] using key
theorem j_newq {idx N : Nat} {i : Int32} (hd : decode M.2.1 pc = .ok (.anewarray idx, 3)) (hq : pc + 3 = q) (hw : Cond.classLink M.1.cls idx RX9 ∈ jtbl) (hi : ¬ i < 0) (hN : i.toNatClampNeg = N) (hby : N ≤ 10000000) (hce : k + 1 ≤ Z.1.cells) (hsl : n + N ≤ Z.1.slots)
    (hZ : jZg Z G.length) (hsc : jSc G.length (ls ++ st)) (hcl : jCl G μ) (K : J l M Z (G ++ [(4, N)]) (k + 1) (n + N) q ls (.ref G.length :: st) (z0 μ G.length)) : J l M Z G k n pc ls (.int i :: st) μ := by
  intro p e s m args below meth c D cA ad0 ad A b H locs sl ok ex hAD hcs hR hL
  subst hq
  refine va_newq ok.1 ok.2.1 ok.2.2.2.2.1 (ok.2.2.2.2.2.1 _ hw) hR.2.1.2.2 hR.2.1.1 hR.2.2.1 hR.2.2.2.1 hR.2.2.2.2 hR.1 hi hN (by omega) hce hsl hd (fun x cA' H1 hK' hP' hD' hS' => ?_)
  have hcc : cA' = cA 4 := by
    have h1 := (hK'.2 (jtys cA).length (cA', .object RX9) (by rw [List.getElem?_append_right (Nat.le_refl _)]; simp)).2
    have h2 := (hR.2.1.1.2 4 _ (show (jtys cA)[4]? = some (cA 4, .object RX9) from rfl)).2
    obtain ⟨_, _, _, _, _, h1⟩ := h1
    obtain ⟨_, _, _, _, _, h2⟩ := h2
    exact Option.some.inj (h1.symm.trans h2)
  subst hcc
  have hE : ((x, .inl (cA 4, N, .inr (.inr (.inr (.inr (fun _ => none)))))) : Nat × va_E) = (x, jE cA (fun q => if q = G.length then x else ad q) (z0 μ G.length) G.length (4, N)) := by
    simp [jE, jA, z0]
  rw [hE, jW_push hcl] at hP' hD'
  have hag : ∀ q, q < G.length → (fun q => if q = G.length then x else ad q) q = ad q := fun q hq => by simp [show q ≠ G.length by omega]
  have key := K p e s m args below meth c D cA ad0 (fun q => if q = G.length then x else ad q) A b H1 locs sl ok ex (hZ _ _ _ hAD hag) ⟨hce, hsl⟩ ⟨hR.1, hR.2.1, hP', hD', hS'⟩ (jL_sc hag (fun v hv => hsc v (List.mem_append_left _ hv)) hL)
  rw [List.map_cons, jtr_scL hag (fun v hv => hsc v (List.mem_append_right _ hv))] at key
  simpa [jtr] using key
theorem jnf : ((List.range 13).all fun ci => (List.range 80).all fun j => !(jty ci j == .float) && !(jty ci j == .double)) = true := by decide +kernel
theorem jnN {ci : Nat} {q : vw_C} (h : jcl[ci]? = some q) : ci < 13 ∧ q.2.2 ≤ 80 := by
  have h1 : ci < 13 := (List.getElem?_eq_some_iff.mp h).1
  refine ⟨h1, ?_⟩
  have h2 : (jcl.all fun q => decide (q.2.2 ≤ 80)) = true := by decide
  exact of_decide_eq_true (List.all_eq_true.mp h2 q (List.mem_of_getElem? h))
theorem jfs_z0 {ad : Nat → Nat} {μ : jM} {ci g N : Nat} {C : String} {T : u_T} (hc : jcl[ci]? = some (C, T, N)) : ∀ j, j < N → defaultValue (jty ci j) = vp_V (jfs ad (z0 μ g) ci g N) j := by
  intro j hj
  have h1 : vp_V (jfs ad (z0 μ g) ci g N) j = jfv ad (z0 μ g) (jty ci j) g j := by simp [vp_V, jfs, hj]
  rw [h1]
  obtain ⟨h2, h3⟩ := jnN hc
  have h4 := List.all_eq_true.mp (List.all_eq_true.mp jnf ci (List.mem_range.mpr h2)) j (List.mem_range.mpr (Nat.lt_of_lt_of_le hj h3))
  generalize jty ci j = ty at h4 ⊢
  cases ty <;> first | rfl | (simp [jfv, z0, defaultValue, va_rf]; done) | (simp at h4)
theorem j_new {ci idx N : Nat} {C : String} {T : u_T} (hd : decode M.2.1 pc = .ok (.new idx, 3)) (hq : pc + 3 = q) (hc : jcl[ci]? = some (C, T, N)) (hw : Cond.classLink M.1.cls idx C ∈ jtbl) (hin : Cond.instantiable C N ∈ jtbl) (hini : Cond.initialized C ∈ jtbl) (hce : k + 1 ≤ Z.1.cells) (hsl : n + N ≤ Z.1.slots)
    (hZ : jZg Z G.length) (hsc : jSc G.length (ls ++ st)) (hcl : jCl G μ) (K : J l M Z (G ++ [(ci + 5, N)]) (k + 1) (n + N) q ls (.ref G.length :: st) (z0 μ G.length)) : J l M Z G k n pc ls st μ := by
  intro p e s m args below meth c D cA ad0 ad A b H locs sl ok ex hAD hcs hR hL
  subst hq
  refine va_new (fs := jfs ad (z0 μ G.length) ci G.length N) ok.1 ok.2.1 ok.2.2.2.2.2.1 (jin_ok hc) (jty ci) (jty_ok hc) ok.2.2.2.2.1 (ok.2.2.2.2.2.1 _ hw) (ok.2.2.2.2.2.1 _ hin) (ok.2.2.2.2.2.1 _ hini) hR.2.1.1 hR.2.2.1 hR.2.2.2.1 hR.2.2.2.2 hR.1 hc (jfs_z0 hc) hce hsl hd (fun x H1 hP' hD' hS' => ?_)
  have hE : ((x, .inr (ci, jfs ad (z0 μ G.length) ci G.length N)) : Nat × va_E) = (x, jE cA (fun q => if q = G.length then x else ad q) (z0 μ G.length) G.length (ci + 5, N)) := by
    rw [jE_obj]
    congr 3
    unfold jfs; congr 1; funext f; unfold jfv; split <;> simp [z0]
  rw [hE, jW_push hcl] at hP' hD'
  have hag : ∀ q, q < G.length → (fun q => if q = G.length then x else ad q) q = ad q := fun q hq => by simp [show q ≠ G.length by omega]
  have key := K p e s m args below meth c D cA ad0 (fun q => if q = G.length then x else ad q) A b H1 locs sl ok ex (hZ _ _ _ hAD hag) ⟨hce, hsl⟩ ⟨hR.1, hR.2.1, hP', hD', hS'⟩ (jL_sc hag (fun v hv => hsc v (List.mem_append_left _ hv)) hL)
  rw [List.map_cons, jtr_scL hag (fun v hv => hsc v (List.mem_append_right _ hv))] at key
  simpa [jtr] using key
end JNew
