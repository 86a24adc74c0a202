section JMem
variable {l : Launch} {M : jMt} {Z : jZ} {G : jG} {k n pc q : Nat} {ls st : List Value} {μ : jM}
/-! fields -/
theorem j_get {ci N f idx a : Nat} {C : String} {T : u_T} (v : Value) (hd : decode M.2.1 pc = .ok (.getfield idx, 3)) (hq : pc + 3 = q) (hG : G[a]? = some (ci + 5, N)) (hc : jcl[ci]? = some (C, T, N)) (hk : f < N) (hw : Cond.fieldLink M.1.cls idx (T f).1 (T f).2.1 (T f).2.2.1 ∈ jtbl) (hv : ∀ ad b, jfv ad μ (jty ci f) a f = jtr ad b v) (K : J l M Z G k n q ls (v :: st) μ) : J l M Z G k n pc ls (.ref a :: st) μ := by
  intro p e s m args below meth c D cA ad0 ad A b H locs sl ok ex hAD hcs hR hL
  subst hq
  have he := jW_get (cA := cA) (ad := ad) (μ := μ) hG
  rw [jE_obj] at he
  refine va_get ok.1 ok.2.1 ok.2.2.2.2.2.1 (jin_ok hc) ok.2.2.2.2.1 hR.2.1.1 hR.2.2.1 a he hc f hk (ok.2.2.2.2.2.1 _ hw) (fun _ h => h) (jfs_at hk) hd ?_
  rw [hv ad b]
  exact K p e s m args below meth c D cA ad0 ad A b H locs sl ok ex hAD hcs hR hL
theorem j_put {ci N f idx a : Nat} {C : String} {T : u_T} {v : Value} (μ' : jM) (hd : decode M.2.1 pc = .ok (.putfield idx, 3)) (hq : pc + 3 = q) (hG : G[a]? = some (ci + 5, N)) (hc : jcl[ci]? = some (C, T, N)) (hk : f < N) (hw : Cond.fieldLink M.1.cls idx (T f).1 (T f).2.1 (T f).2.2.1 ∈ jtbl) (hfin : (T f).2.2.2 = false)
    (hn : ∀ ad b, narrow (jty ci f) (jtr ad b v) = jtr ad b v ∧ fits (jty ci f) (jtr ad b v) = true) (hv : ∀ ad b, jtr ad b v = jfv ad μ' (jty ci f) a f) (ho : ∀ ad j, j ≠ f → jfv ad μ' (jty ci j) a j = jfv ad μ (jty ci j) a j) (hoff : ∀ cA ad c, c ≠ a → ∀ q, jE cA ad μ' c q = jE cA ad μ c q)
    (K : J l M Z G k n q ls st μ') : J l M Z G k n pc ls (v :: .ref a :: st) μ := by
  intro p e s m args below meth c D cA ad0 ad A b H locs sl ok ex hAD hcs hR hL
  subst hq
  have he := jW_get (cA := cA) (ad := ad) (μ := μ) hG
  rw [jE_obj] at he
  refine va_put ok.1 ok.2.1 ok.2.2.2.2.2.1 (jin_ok hc) (jty ci) (jty_ok hc) (jnm_ok hc) ok.2.2.2.2.1 hR.2.1.1 hR.2.2.1 hR.2.2.2.1 hR.2.2.2.2 a he hc f hk (ok.2.2.2.2.2.1 _ hw) (fun _ h => h) hfin (jty_ok hc f hk) (hn ad b).1 (hn ad b).2 (by rw [jfs_len]; exact hk) hd (fun H1 locs1 h1 h2 h3 => ?_)
  have e1 : (jW G cA ad μ).set a (ad a, .inr (ci, (jfs ad μ ci a N).set f (jtr ad b v))) = jW G cA ad μ' := jW_set hG (hoff cA ad) (by rw [jE_obj, jfs_set hk (hv ad b) (ho ad)])
  rw [e1] at h1 h2
  exact K p e s m args below meth c D cA ad0 ad A b H1 locs1 sl ok ex hAD hcs ⟨hR.1, hR.2.1, h1, h2, h3⟩ hL
theorem j_putF {ci N f idx a : Nat} {C : String} {T : u_T} {v : Value} (μ' : jM) (hd : decode M.2.1 pc = .ok (.putfield idx, 3)) (hq : pc + 3 = q) (hG : G[a]? = some (ci + 5, N)) (hc : jcl[ci]? = some (C, T, N)) (hk : f < N) (hw : Cond.fieldLink M.1.cls idx (T f).1 (T f).2.1 (T f).2.2.1 ∈ jtbl) (hfin : (T f).2.2.2 = true) (hin : M.1.name = "<init>") (hdc : (T f).1 = M.1.cls)
    (hn : ∀ ad b, narrow (jty ci f) (jtr ad b v) = jtr ad b v ∧ fits (jty ci f) (jtr ad b v) = true) (hv : ∀ ad b, jtr ad b v = jfv ad μ' (jty ci f) a f) (ho : ∀ ad j, j ≠ f → jfv ad μ' (jty ci j) a j = jfv ad μ (jty ci j) a j) (hoff : ∀ cA ad c, c ≠ a → ∀ q, jE cA ad μ' c q = jE cA ad μ c q)
    (K : J l M Z G k n q ls st μ') : J l M Z G k n pc ls (v :: .ref a :: st) μ := by
  intro p e s m args below meth c D cA ad0 ad A b H locs sl ok ex hAD hcs hR hL
  subst hq
  have he := jW_get (cA := cA) (ad := ad) (μ := μ) hG
  rw [jE_obj] at he
  refine va_putF ok.1 ok.2.1 ok.2.2.2.2.2.1 (jin_ok hc) (jty ci) (jty_ok hc) (jnm_ok hc) ok.2.2.2.2.1 hR.2.1.1 hR.2.2.1 hR.2.2.2.1 hR.2.2.2.2 a he hc f hk (ok.2.2.2.2.2.1 _ hw) (fun _ h => h) hfin (ok.2.2.2.2.2.2.2 hin) hdc (jty_ok hc f hk) (hn ad b).1 (hn ad b).2 (by rw [jfs_len]; exact hk) hd (fun H1 locs1 h1 h2 h3 => ?_)
  have e1 : (jW G cA ad μ).set a (ad a, .inr (ci, (jfs ad μ ci a N).set f (jtr ad b v))) = jW G cA ad μ' := jW_set hG (hoff cA ad) (by rw [jE_obj, jfs_set hk (hv ad b) (ho ad)])
  rw [e1] at h1 h2
  exact K p e s m args below meth c D cA ad0 ad A b H1 locs1 sl ok ex hAD hcs ⟨hR.1, hR.2.1, h1, h2, h3⟩ hL
/-! the kinds of a field -/
def jki (ty : FieldType) : Nat := match ty with
  | .long => 1
  | .object _ => 2
  | .array _ => 2
  | _ => 0
theorem jfv_i {ad : Nat → Nat} {μ : jM} {ty : FieldType} {a f : Nat} (h : jki ty = 0) : jfv ad μ ty a f = .int (μ.1 a f) := by
  cases ty <;> first | rfl | (simp [jki] at h)
theorem jfv_l {ad : Nat → Nat} {μ : jM} {ty : FieldType} {a f : Nat} (h : jki ty = 1) : jfv ad μ ty a f = .long (μ.2.1 a f) := by
  cases ty <;> first | rfl | (simp [jki] at h)
theorem jfv_r {ad : Nat → Nat} {μ : jM} {ty : FieldType} {a f : Nat} (h : jki ty = 2) : jfv ad μ ty a f = va_rf ((μ.2.2 a f).map ad) := by
  cases ty <;> first | rfl | (simp [jki] at h)
theorem jki_3 (ty : FieldType) : jki ty = 0 ∨ jki ty = 1 ∨ jki ty = 2 := by cases ty <;> simp [jki]
theorem jfv_wI {ad : Nat → Nat} {μ : jM} {ci a f : Nat} {x : Int32} : ∀ j, j ≠ f → jfv ad (wI μ a f x) (jty ci j) a j = jfv ad μ (jty ci j) a j := by
  intro j hj
  rcases jki_3 (jty ci j) with h | h | h
  · rw [jfv_i h, jfv_i h]; simp [wI, upd, hj]
  · rw [jfv_l h, jfv_l h]; rfl
  · rw [jfv_r h, jfv_r h]; rfl
theorem jfv_wL {ad : Nat → Nat} {μ : jM} {ci a f : Nat} {x : Int64} : ∀ j, j ≠ f → jfv ad (wL μ a f x) (jty ci j) a j = jfv ad μ (jty ci j) a j := by
  intro j hj
  rcases jki_3 (jty ci j) with h | h | h
  · rw [jfv_i h, jfv_i h]; rfl
  · rw [jfv_l h, jfv_l h]; simp [wL, vp_updL, hj]
  · rw [jfv_r h, jfv_r h]; rfl
theorem jfv_wP {ad : Nat → Nat} {μ : jM} {ci a f : Nat} {x : Option Nat} : ∀ j, j ≠ f → jfv ad (wP μ a f x) (jty ci j) a j = jfv ad μ (jty ci j) a j := by
  intro j hj
  rcases jki_3 (jty ci j) with h | h | h
  · rw [jfv_i h, jfv_i h]; rfl
  · rw [jfv_l h, jfv_l h]; rfl
  · rw [jfv_r h, jfv_r h]; simp [wP, va_up, hj]
theorem j_getI {ci N f idx a : Nat} {C : String} {T : u_T} (hd : decode M.2.1 pc = .ok (.getfield idx, 3)) (hq : pc + 3 = q) (hG : G[a]? = some (ci + 5, N)) (hc : jcl[ci]? = some (C, T, N)) (hk : f < N) (hw : Cond.fieldLink M.1.cls idx (T f).1 (T f).2.1 (T f).2.2.1 ∈ jtbl) (ht : jki (jty ci f) = 0) (K : J l M Z G k n q ls (.int (μ.1 a f) :: st) μ) : J l M Z G k n pc ls (.ref a :: st) μ :=
  j_get (.int (μ.1 a f)) hd hq hG hc hk hw (fun _ _ => jfv_i ht) K
theorem j_getL {ci N f idx a : Nat} {C : String} {T : u_T} (hd : decode M.2.1 pc = .ok (.getfield idx, 3)) (hq : pc + 3 = q) (hG : G[a]? = some (ci + 5, N)) (hc : jcl[ci]? = some (C, T, N)) (hk : f < N) (hw : Cond.fieldLink M.1.cls idx (T f).1 (T f).2.1 (T f).2.2.1 ∈ jtbl) (ht : jki (jty ci f) = 1) (K : J l M Z G k n q ls (.long (μ.2.1 a f) :: st) μ) : J l M Z G k n pc ls (.ref a :: st) μ :=
  j_get (.long (μ.2.1 a f)) hd hq hG hc hk hw (fun _ _ => jfv_l ht) K
theorem j_getR {ci N f idx a : Nat} {C : String} {T : u_T} (x : Nat) (hd : decode M.2.1 pc = .ok (.getfield idx, 3)) (hq : pc + 3 = q) (hG : G[a]? = some (ci + 5, N)) (hc : jcl[ci]? = some (C, T, N)) (hk : f < N) (hw : Cond.fieldLink M.1.cls idx (T f).1 (T f).2.1 (T f).2.2.1 ∈ jtbl) (ht : jki (jty ci f) = 2) (hx : μ.2.2 a f = some x) (K : J l M Z G k n q ls (.ref x :: st) μ) : J l M Z G k n pc ls (.ref a :: st) μ :=
  j_get (.ref x) hd hq hG hc hk hw (fun ad b => by rw [jfv_r ht, hx]; rfl) K
theorem j_getN {ci N f idx a : Nat} {C : String} {T : u_T} (hd : decode M.2.1 pc = .ok (.getfield idx, 3)) (hq : pc + 3 = q) (hG : G[a]? = some (ci + 5, N)) (hc : jcl[ci]? = some (C, T, N)) (hk : f < N) (hw : Cond.fieldLink M.1.cls idx (T f).1 (T f).2.1 (T f).2.2.1 ∈ jtbl) (ht : jki (jty ci f) = 2) (hx : μ.2.2 a f = none) (K : J l M Z G k n q ls (.null :: st) μ) : J l M Z G k n pc ls (.ref a :: st) μ :=
  j_get .null hd hq hG hc hk hw (fun ad b => by rw [jfv_r ht, hx]; rfl) K
theorem jty_ref {ty : FieldType} (h : jki ty = 2) (x : Nat) : narrow ty (.ref x) = .ref x ∧ fits ty (.ref x) = true := by
  cases ty <;> first | exact ⟨rfl, rfl⟩ | (simp [jki] at h)
theorem jty_long {ty : FieldType} (h : jki ty = 1) (x : Int64) : narrow ty (.long x) = .long x ∧ fits ty (.long x) = true := by
  cases ty <;> first | exact ⟨rfl, rfl⟩ | (simp [jki] at h)
theorem j_putI {ci N f idx a : Nat} {C : String} {T : u_T} {x : Int32} (hd : decode M.2.1 pc = .ok (.putfield idx, 3)) (hq : pc + 3 = q) (hG : G[a]? = some (ci + 5, N)) (hc : jcl[ci]? = some (C, T, N)) (hk : f < N) (hw : Cond.fieldLink M.1.cls idx (T f).1 (T f).2.1 (T f).2.2.1 ∈ jtbl) (hfin : (T f).2.2.2 = false) (ht : jty ci f = .int) (K : J l M Z G k n q ls st (wI μ a f x)) : J l M Z G k n pc ls (.int x :: .ref a :: st) μ :=
  j_put (wI μ a f x) hd hq hG hc hk hw hfin (fun _ _ => by rw [ht]; exact ⟨rfl, rfl⟩) (fun ad b => by rw [jfv_i (by rw [ht]; rfl)]; simp [wI, upd, jtr]) (fun ad => jfv_wI) (fun cA ad => wI_off) K
theorem j_putFI {ci N f idx a : Nat} {C : String} {T : u_T} {x : Int32} (hd : decode M.2.1 pc = .ok (.putfield idx, 3)) (hq : pc + 3 = q) (hG : G[a]? = some (ci + 5, N)) (hc : jcl[ci]? = some (C, T, N)) (hk : f < N) (hw : Cond.fieldLink M.1.cls idx (T f).1 (T f).2.1 (T f).2.2.1 ∈ jtbl) (hfin : (T f).2.2.2 = true) (hin : M.1.name = "<init>") (hdc : (T f).1 = M.1.cls) (ht : jty ci f = .int) (K : J l M Z G k n q ls st (wI μ a f x)) : J l M Z G k n pc ls (.int x :: .ref a :: st) μ :=
  j_putF (wI μ a f x) hd hq hG hc hk hw hfin hin hdc (fun _ _ => by rw [ht]; exact ⟨rfl, rfl⟩) (fun ad b => by rw [jfv_i (by rw [ht]; rfl)]; simp [wI, upd, jtr]) (fun ad => jfv_wI) (fun cA ad => wI_off) K
theorem jz_ok {x : Int32} (hx : x = 0 ∨ x = 1) : narrow .boolean (.int x) = .int x ∧ fits .boolean (.int x) = true := by
  rcases hx with rfl | rfl
  · exact ⟨by decide, by decide⟩
  · exact ⟨by decide, by decide⟩
theorem j_putB {ci N f idx a : Nat} {C : String} {T : u_T} {x : Int32} (hd : decode M.2.1 pc = .ok (.putfield idx, 3)) (hq : pc + 3 = q) (hG : G[a]? = some (ci + 5, N)) (hc : jcl[ci]? = some (C, T, N)) (hk : f < N) (hw : Cond.fieldLink M.1.cls idx (T f).1 (T f).2.1 (T f).2.2.1 ∈ jtbl) (hfin : (T f).2.2.2 = false) (ht : jty ci f = .boolean) (hx : x = 0 ∨ x = 1) (K : J l M Z G k n q ls st (wI μ a f x)) : J l M Z G k n pc ls (.int x :: .ref a :: st) μ :=
  j_put (wI μ a f x) hd hq hG hc hk hw hfin (v := .int x) (fun _ _ => by rw [ht]; exact jz_ok hx) (fun ad b => by rw [jfv_i (by rw [ht]; rfl)]; simp [wI, upd, jtr]) (fun ad => jfv_wI) (fun cA ad => wI_off) K
theorem j_putL {ci N f idx a : Nat} {C : String} {T : u_T} {x : Int64} (hd : decode M.2.1 pc = .ok (.putfield idx, 3)) (hq : pc + 3 = q) (hG : G[a]? = some (ci + 5, N)) (hc : jcl[ci]? = some (C, T, N)) (hk : f < N) (hw : Cond.fieldLink M.1.cls idx (T f).1 (T f).2.1 (T f).2.2.1 ∈ jtbl) (hfin : (T f).2.2.2 = false) (ht : jki (jty ci f) = 1) (K : J l M Z G k n q ls st (wL μ a f x)) : J l M Z G k n pc ls (.long x :: .ref a :: st) μ :=
  j_put (wL μ a f x) hd hq hG hc hk hw hfin (fun _ _ => jty_long ht x) (fun ad b => by rw [jfv_l ht]; simp [wL, vp_updL, jtr]) (fun ad => jfv_wL) (fun cA ad => wL_off) K
theorem j_putR {ci N f idx a : Nat} {C : String} {T : u_T} {x : Nat} (hd : decode M.2.1 pc = .ok (.putfield idx, 3)) (hq : pc + 3 = q) (hG : G[a]? = some (ci + 5, N)) (hc : jcl[ci]? = some (C, T, N)) (hk : f < N) (hw : Cond.fieldLink M.1.cls idx (T f).1 (T f).2.1 (T f).2.2.1 ∈ jtbl) (hfin : (T f).2.2.2 = false) (ht : jki (jty ci f) = 2) (K : J l M Z G k n q ls st (wP μ a f (some x))) : J l M Z G k n pc ls (.ref x :: .ref a :: st) μ :=
  j_put (wP μ a f (some x)) hd hq hG hc hk hw hfin (fun ad _ => jty_ref ht (ad x)) (fun ad b => by rw [jfv_r ht]; simp [wP, va_up, jtr, va_rf]) (fun ad => jfv_wP) (fun cA ad => wP_off) K
theorem j_putFR {ci N f idx a : Nat} {C : String} {T : u_T} {x : Nat} (hd : decode M.2.1 pc = .ok (.putfield idx, 3)) (hq : pc + 3 = q) (hG : G[a]? = some (ci + 5, N)) (hc : jcl[ci]? = some (C, T, N)) (hk : f < N) (hw : Cond.fieldLink M.1.cls idx (T f).1 (T f).2.1 (T f).2.2.1 ∈ jtbl) (hfin : (T f).2.2.2 = true) (hin : M.1.name = "<init>") (hdc : (T f).1 = M.1.cls) (ht : jki (jty ci f) = 2) (K : J l M Z G k n q ls st (wP μ a f (some x))) : J l M Z G k n pc ls (.ref x :: .ref a :: st) μ :=
  j_putF (wP μ a f (some x)) hd hq hG hc hk hw hfin hin hdc (fun ad _ => jty_ref ht (ad x)) (fun ad b => by rw [jfv_r ht]; simp [wP, va_up, jtr, va_rf]) (fun ad => jfv_wP) (fun cA ad => wP_off) K
/-! arrays -/
theorem j_iald {a N : Nat} {i : Int32} (hd : decode M.2.1 pc = .ok (.iaload, 1)) (hq : pc + 1 = q) (hG : G[a]? = some (0, N)) (hin : vp_in i N) (K : J l M Z G k n q ls (.int (μ.1 a i.toNatClampNeg) :: st) μ) : J l M Z G k n pc ls (.int i :: .ref a :: st) μ := by
  intro p e s m args below meth c D cA ad0 ad A b H locs sl ok ex hAD hcs hR hL
  subst hq
  exact va_iald ok.1 ok.2.1 hR.2.1.1 hR.2.2.1 a 0 (jW_get hG) rfl hin hd (K p e s m args below meth c D cA ad0 ad A b H locs sl ok ex hAD hcs hR hL)
theorem j_bald {a N : Nat} {i : Int32} (hd : decode M.2.1 pc = .ok (.baload, 1)) (hq : pc + 1 = q) (hG : G[a]? = some (1, N)) (hin : vp_in i N) (K : J l M Z G k n q ls (.int (μ.1 a i.toNatClampNeg) :: st) μ) : J l M Z G k n pc ls (.int i :: .ref a :: st) μ := by
  intro p e s m args below meth c D cA ad0 ad A b H locs sl ok ex hAD hcs hR hL
  subst hq
  exact va_bald ok.1 ok.2.1 hR.2.1.1 hR.2.2.1 a 1 (jW_get hG) rfl hin hd (K p e s m args below meth c D cA ad0 ad A b H locs sl ok ex hAD hcs hR hL)
theorem j_zald {a N : Nat} {i : Int32} (hd : decode M.2.1 pc = .ok (.baload, 1)) (hq : pc + 1 = q) (hG : G[a]? = some (2, N)) (hin : vp_in i N) (K : J l M Z G k n q ls (.int (μ.1 a i.toNatClampNeg) :: st) μ) : J l M Z G k n pc ls (.int i :: .ref a :: st) μ := by
  intro p e s m args below meth c D cA ad0 ad A b H locs sl ok ex hAD hcs hR hL
  subst hq
  exact va_zald ok.1 ok.2.1 hR.2.1.1 hR.2.2.1 a 2 (jW_get hG) rfl hin hd (K p e s m args below meth c D cA ad0 ad A b H locs sl ok ex hAD hcs hR hL)
theorem j_lald {a N : Nat} {i : Int32} (hd : decode M.2.1 pc = .ok (.laload, 1)) (hq : pc + 1 = q) (hG : G[a]? = some (3, N)) (hin : vp_in i N) (K : J l M Z G k n q ls (.long (μ.2.1 a i.toNatClampNeg) :: st) μ) : J l M Z G k n pc ls (.int i :: .ref a :: st) μ := by
  intro p e s m args below meth c D cA ad0 ad A b H locs sl ok ex hAD hcs hR hL
  subst hq
  exact va_lald ok.1 ok.2.1 hR.2.1.1 hR.2.2.1 a 3 (jW_get hG) rfl hin hd (K p e s m args below meth c D cA ad0 ad A b H locs sl ok ex hAD hcs hR hL)
theorem j_aald {a N x : Nat} {i : Int32} (hd : decode M.2.1 pc = .ok (.aaload, 1)) (hq : pc + 1 = q) (hG : G[a]? = some (4, N)) (hin : vp_in i N) (hx : μ.2.2 a i.toNatClampNeg = some x) (K : J l M Z G k n q ls (.ref x :: st) μ) : J l M Z G k n pc ls (.int i :: .ref a :: st) μ := by
  intro p e s m args below meth c D cA ad0 ad A b H locs sl ok ex hAD hcs hR hL
  subst hq
  refine va_aldq ok.1 ok.2.1 hR.2.1.1 hR.2.2.1 a 4 (jW_get hG) rfl hin hd ?_
  rw [hx]
  exact K p e s m args below meth c D cA ad0 ad A b H locs sl ok ex hAD hcs hR hL
theorem j_alen {a kd N : Nat} (v : Int32) (hd : decode M.2.1 pc = .ok (.arraylength, 1)) (hq : pc + 1 = q) (hG : G[a]? = some (kd, N)) (hk : kd < 4) (hv : Int32.ofNat N = v) (K : J l M Z G k n q ls (.int v :: st) μ) : J l M Z G k n pc ls (.ref a :: st) μ := by
  intro p e s m args below meth c D cA ad0 ad A b H locs sl ok ex hAD hcs hR hL
  subst hq
  have he := jW_get (cA := cA) (ad := ad) (μ := μ) hG
  rw [show jE cA ad μ a (kd, N) = .inl (cA kd, jA ad μ kd N a) from by simp [jE, show kd < 5 by omega]] at he
  have h1 : (jA ad μ kd N a).1 = N := by unfold jA; split <;> rfl
  obtain ⟨ty, hty⟩ : ∃ ty, (jtys cA)[kd]? = some (cA kd, ty) := by
    match kd, hk with
    | 0, _ => exact ⟨_, rfl⟩
    | 1, _ => exact ⟨_, rfl⟩
    | 2, _ => exact ⟨_, rfl⟩
    | 3, _ => exact ⟨_, rfl⟩
  exact va_alen ok.1 ok.2.1 hR.2.1.1 hR.2.2.1 a kd he hty (by rw [h1]; exact hv) hd (K p e s m args below meth c D cA ad0 ad A b H locs sl ok ex hAD hcs hR hL)
theorem wI_E {cA : Nat → ClassId} {ad : Nat → Nat} {μ : jM} {a N i kd : Nat} {x : Int32} (h : kd < 3) : (.inl (cA kd, N, .inl (upd (μ.1 a) i x)) : va_E) = jE cA ad (wI μ a i x) a (kd, N) := by
  have h1 : kd = 0 ∨ kd = 1 ∨ kd = 2 := by omega
  rcases h1 with rfl | rfl | rfl <;> simp [jE, jA, wI]
theorem j_iast {a N : Nat} {i x : Int32} (hd : decode M.2.1 pc = .ok (.iastore, 1)) (hq : pc + 1 = q) (hG : G[a]? = some (0, N)) (hin : vp_in i N) (K : J l M Z G k n q ls st (wI μ a i.toNatClampNeg x)) : J l M Z G k n pc ls (.int x :: .int i :: .ref a :: st) μ := by
  intro p e s m args below meth c D cA ad0 ad A b H locs sl ok ex hAD hcs hR hL
  subst hq
  refine va_iast ok.1 ok.2.1 hR.2.1.1 hR.2.2.1 hR.2.2.2.1 hR.2.2.2.2 a 0 (jW_get hG) rfl hin hd (fun H1 locs1 h1 h2 h3 => ?_)
  rw [jW_set hG wI_off (wI_E (by decide))] at h1 h2
  exact K p e s m args below meth c D cA ad0 ad A b H1 locs1 sl ok ex hAD hcs ⟨hR.1, hR.2.1, h1, h2, h3⟩ hL
theorem j_bast {a N : Nat} {i x : Int32} (hd : decode M.2.1 pc = .ok (.bastore, 1)) (hq : pc + 1 = q) (hG : G[a]? = some (1, N)) (hin : vp_in i N) (K : J l M Z G k n q ls st (wI μ a i.toNatClampNeg (vp_nar .byte x))) : J l M Z G k n pc ls (.int x :: .int i :: .ref a :: st) μ := by
  intro p e s m args below meth c D cA ad0 ad A b H locs sl ok ex hAD hcs hR hL
  subst hq
  refine va_bast ok.1 ok.2.1 hR.2.1.1 hR.2.2.1 hR.2.2.2.1 hR.2.2.2.2 a 1 (jW_get hG) rfl hin hd (fun H1 locs1 h1 h2 h3 => ?_)
  rw [jW_set hG wI_off (wI_E (by decide))] at h1 h2
  exact K p e s m args below meth c D cA ad0 ad A b H1 locs1 sl ok ex hAD hcs ⟨hR.1, hR.2.1, h1, h2, h3⟩ hL
theorem j_zast {a N : Nat} {i x : Int32} (hd : decode M.2.1 pc = .ok (.bastore, 1)) (hq : pc + 1 = q) (hG : G[a]? = some (2, N)) (hin : vp_in i N) (K : J l M Z G k n q ls st (wI μ a i.toNatClampNeg (vp_nar .boolean x))) : J l M Z G k n pc ls (.int x :: .int i :: .ref a :: st) μ := by
  intro p e s m args below meth c D cA ad0 ad A b H locs sl ok ex hAD hcs hR hL
  subst hq
  refine va_zast ok.1 ok.2.1 hR.2.1.1 hR.2.2.1 hR.2.2.2.1 hR.2.2.2.2 a 2 (jW_get hG) rfl hin hd (fun H1 locs1 h1 h2 h3 => ?_)
  rw [jW_set hG wI_off (wI_E (by decide))] at h1 h2
  exact K p e s m args below meth c D cA ad0 ad A b H1 locs1 sl ok ex hAD hcs ⟨hR.1, hR.2.1, h1, h2, h3⟩ hL
theorem j_last {a N : Nat} {i : Int32} {x : Int64} (hd : decode M.2.1 pc = .ok (.lastore, 1)) (hq : pc + 1 = q) (hG : G[a]? = some (3, N)) (hin : vp_in i N) (K : J l M Z G k n q ls st (wL μ a i.toNatClampNeg x)) : J l M Z G k n pc ls (.long x :: .int i :: .ref a :: st) μ := by
  intro p e s m args below meth c D cA ad0 ad A b H locs sl ok ex hAD hcs hR hL
  subst hq
  refine va_last ok.1 ok.2.1 hR.2.1.1 hR.2.2.1 hR.2.2.2.1 hR.2.2.2.2 a 3 (jW_get hG) rfl hin hd (fun H1 locs1 h1 h2 h3 => ?_)
  rw [jW_set (μ' := wL μ a i.toNatClampNeg x) hG wL_off (by simp [jE, jA, wL])] at h1 h2
  exact K p e s m args below meth c D cA ad0 ad A b H1 locs1 sl ok ex hAD hcs ⟨hR.1, hR.2.1, h1, h2, h3⟩ hL
theorem j_aast {a N x NW : Nat} {i : Int32} (hd : decode M.2.1 pc = .ok (.aastore, 1)) (hq : pc + 1 = q) (hG : G[a]? = some (4, N)) (hX : G[x]? = some (9 + 5, NW)) (hin : vp_in i N) (K : J l M Z G k n q ls st (wP μ a i.toNatClampNeg (some x))) : J l M Z G k n pc ls (.ref x :: .int i :: .ref a :: st) μ := by
  intro p e s m args below meth c D cA ad0 ad A b H locs sl ok ex hAD hcs hR hL
  subst hq
  have he := jW_get (cA := cA) (ad := ad) (μ := μ) hX
  rw [jE_obj] at he
  refine va_astq ok.1 ok.2.1 hR.2.1.1 hR.2.2.1 hR.2.2.2.1 hR.2.2.2.2 a 4 x 9 (r := (RX9, TX9, 9)) (jW_get hG) rfl he rfl hin hd (fun H1 locs1 h1 h2 h3 => ?_)
  have e0 : (.inl (cA 4, N, .inr (.inr (.inr (.inr (va_up (fun k => (μ.2.2 a k).map ad) i.toNatClampNeg (some (ad x))))))) : va_E) = jE cA ad (wP μ a i.toNatClampNeg (some x)) a (4, N) := by
    have e1 : va_up (fun k => (μ.2.2 a k).map ad) i.toNatClampNeg (some (ad x)) = fun k => ((wP μ a i.toNatClampNeg (some x)).2.2 a k).map ad := by
      funext j
      by_cases hj : j = i.toNatClampNeg <;> simp [va_up, wP, hj]
    rw [e1]; rfl
  have h1' : va_P D jcl ((jW G cA ad μ).set a (ad a, jE cA ad (wP μ a i.toNatClampNeg (some x)) a (4, N))) H1 := by rw [← e0]; exact h1
  have h2' : va_D A ((jW G cA ad μ).set a (ad a, jE cA ad (wP μ a i.toNatClampNeg (some x)) a (4, N))) := by rw [← e0]; exact h2
  rw [jW_set (μ' := wP μ a i.toNatClampNeg (some x)) hG wP_off rfl] at h1' h2'
  exact K p e s m args below meth c D cA ad0 ad A b H1 locs1 sl ok ex hAD hcs ⟨hR.1, hR.2.1, h1', h2', h3⟩ hL
end JMem
