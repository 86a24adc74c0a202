/-! THE START OF THE LAW, OVER THE MACHINE -/
set_option maxRecDepth 100000 in
theorem sr_mem : Cond.stringRef "GhostPike$Tokens" 25 strT ∈ lw_tbl := tb_1 _ (List.mem_of_getElem? (i := 59) rfl)
set_option maxRecDepth 100000 in
theorem ls_CS : Cond.laysStatic "java/lang/String" "COMPACT_STRINGS" "Z" ∈ lw_tbl := tb_1 _ (List.mem_of_getElem? (i := 69) rfl)
set_option maxRecDepth 100000 in
theorem ls_SF : Cond.laysStatic "jdk/internal/util/Preconditions" "SIOOBE_FORMATTER" "Ljava/util/function/BiFunction;" ∈ lw_tbl := tb_1 _ (List.mem_of_getElem? (i := 85) rfl)
set_option maxRecDepth 100000 in
theorem ao_X9 : Cond.arrayOver (.object RX9) ∈ lw_tbl := tb_1 _ (List.mem_of_getElem? (i := 178) rfl)
/-- the literal -/
def strM : Term := .string "GhostPike$Tokens" 25
def strV : Term := .field strM "java/lang/String" "value" "[B"
theorem fl_all : ∀ j, j < 124 → (flatC (Jvm.Cond.and given_1 narrow_1))[13 + j]? = some (Cond.eq (.elem strV (.int (Int32.ofNat j))) (.int (strB.getD j 0))) := by decide +kernel
theorem fl_4 : (flatC (Jvm.Cond.and given_1 narrow_1))[4]? = some (Cond.eq (.static "java/lang/String" "COMPACT_STRINGS" "Z") (.int 1)) := by decide +kernel
theorem fl_5 : (flatC (Jvm.Cond.and given_1 narrow_1))[5]? = some (Cond.isRef (.static "jdk/internal/util/Preconditions" "SIOOBE_FORMATTER" "Ljava/util/function/BiFunction;")) := by decide +kernel
theorem fl_9 : (flatC (Jvm.Cond.and given_1 narrow_1))[9]? = some (Cond.exactly strM "java/lang/String") := by decide +kernel
theorem fl_10 : (flatC (Jvm.Cond.and given_1 narrow_1))[10]? = some (Cond.eq (.field strM "java/lang/String" "coder" "B") (.int 0)) := by decide +kernel
theorem fl_11 : (flatC (Jvm.Cond.and given_1 narrow_1))[11]? = some (Cond.arrayOf strV .byte) := by decide +kernel
theorem fl_12 : (flatC (Jvm.Cond.and given_1 narrow_1))[12]? = some (Cond.eq (.length strV) (.int 124)) := by decide +kernel
theorem sX_start {args : Array Value} {s : State} {b : Nat} (hts : ∀ w ∈ lw_tbl, w.before args s = true) (hgv : (Jvm.Cond.and given_1 narrow_1).before args s = true) : sX args s (fun q => s.heap.size ≤ q) b := by
  have hs := flat_of_before _ hgv
  have hA : ∀ a : Nat, a < s.heap.size → ¬ (fun q : Nat => s.heap.size ≤ q) a := fun a h => Nat.not_le.mpr h
  have hini : ∀ C, Cond.initialized C ∈ jtbl → (Cond.initialized C).before args s = true := fun C h => hts _ (List.mem_filter.mp h).1
  obtain ⟨adK, adV, hK, hev⟩ := vk_Sof (args := args) (s := s) (N := 1) (tm := fun _ => strM) (len := [124]) (byt := [strB]) (A := fun q : Nat => s.heap.size ≤ q)
    (fun i hi => by have : i = 0 := by omega
                    subst this; decide)
    (fun i _ => hs _ (List.mem_of_getElem? fl_9)) (fun i _ => hs _ (List.mem_of_getElem? fl_10)) (fun i _ => hs _ (List.mem_of_getElem? fl_11))
    (fun i hi => by have : i = 0 := by omega
                    subst this; exact hs _ (List.mem_of_getElem? fl_12))
    (fun i hi j hj => by have : i = 0 := by omega
                         subst this; exact hs _ (List.mem_of_getElem? (fl_all j hj)))
    (fun i j hi hj h => absurd (by omega) h) hA
  have hZ := va_Zof (A := fun q : Nat => s.heap.size ≤ q) (hts _ ls_CS) (hini _ in_JS) (va_eqt (hs _ (List.mem_of_getElem? fl_4))) hA
  have hF := va_Zqof (A := fun q : Nat => s.heap.size ≤ q) (hts _ ls_SF) (hini _ in_JP) (hs _ (List.mem_of_getElem? fl_5)) hA
  have hS : vk_S 1 [124] [strB] (fun _ => adK 0) (fun _ => adV 0) (fun q : Nat => s.heap.size ≤ q) s s.heap := ⟨fun i hi => by
    have : i = 0 := by omega
    subst this
    exact hK.1 0 hi, fun i j hi hj _ => by omega⟩
  have hR : vk_R "GhostPike$Tokens" 25 strT (adK 0) s := vk_R.of (hts _ sr_mem) (hev 0 (by decide))
  rcases hF with h | ⟨t, h⟩
  · exact ⟨adK 0, adV 0, .null, hR, hS, hZ, h, Or.inl rfl⟩
  · exact ⟨adK 0, adV 0, .ref t, hR, hS, hZ, h, Or.inr ⟨t, rfl⟩⟩
theorem it_ok {ci : Nat} {q : vw_C} (h : jcl[ci]? = some q) : Cond.instantiable q.1 q.2.2 ∈ jtbl := by
  match ci, h with
  | 0, h => cases h; exact it_X0
  | 1, h => cases h; exact it_X1
  | 2, h => cases h; exact it_X2
  | 3, h => cases h; exact it_X3
  | 4, h => cases h; exact it_X4
  | 5, h => cases h; exact it_X5
  | 6, h => cases h; exact it_X6
  | 7, h => cases h; exact it_X7
  | 8, h => cases h; exact it_X8
  | 9, h => cases h; exact it_X9
  | 10, h => cases h; exact it_X10
  | 11, h => cases h; exact it_X11
  | 12, h => cases h; exact it_X12
  | k + 13, h => simp [jcl] at h
theorem arr_at {args : Array Value} {s : State} {ty : FieldType} (h : (Cond.arrayClass ty).before args s = true) : ∃ cA, ArrOfT s cA ty ∧ s.vm.findClass ("[" ++ ty.toString) = some cA := by
  obtain ⟨c, k, comp, h1, h2, h3⟩ := Cond.arrayClass_spec (args := args) (first := s) (o := none) (s := s) (idx := []) h
  exact ⟨c, fun n z => ⟨fun k h => (by cases h), k, h2, comp, h3⟩, h1⟩
theorem K_start {args : Array Value} {s : State} (hts : ∀ w ∈ lw_tbl, w.before args s = true) : ∃ (D : va_G) (cA : Nat → ClassId), va_K D jcl (jtys cA) s ∧ jNW s := by
  have ht : ∀ w ∈ jtbl, w.before args s = true := fun w hw => hts w (List.mem_filter.mp hw).1
  have hk : ∀ ci : Nat, ∃ q : ClassId × (Nat → Nat), ∀ c : vw_C, jcl[ci]? = some c → u_Kn s c.1 c.2.1 c.2.2 q.1 q.2 := fun ci => by
    cases h : jcl[ci]? with
    | none => exact ⟨(default, fun _ => 0), fun c h => by cases h⟩
    | some c =>
      obtain ⟨cC, iS, hq⟩ := u_known (C := c.1) (T := c.2.1) (N := c.2.2) (n := c.2.2) ht (jin_ok h) (ht _ (it_ok h))
      exact ⟨(cC, iS), fun c' e => by cases e; exact hq⟩
  obtain ⟨f, hf⟩ := Classical.axiomOfChoice hk
  obtain ⟨cI, aI, nI'⟩ := arr_at (ht _ ac_int)
  obtain ⟨cB, aB, nB⟩ := arr_at (ht _ ac_byte)
  obtain ⟨cZ, aZ, nZ⟩ := arr_at (ht _ ac_boolean)
  obtain ⟨cL, aL, nL⟩ := arr_at (ht _ ac_long)
  have hao : va_AO RX9 s := va_AO.of (hts _ ao_X9)
  obtain ⟨comp, cO, kO, h1, h2, h3, h4, h5⟩ := Cond.arrayOver_spec hao
  refine ⟨(fun c => (f c).1, fun c => (f c).2), fun k => match k with | 0 => cI | 1 => cB | 2 => cZ | 3 => cL | _ => cO, ⟨fun c q hq => hf c q hq, fun k q hq => ?_⟩, fun w hw => ?_, hao⟩
  · match k, hq with
    | 0, hq => cases hq; exact ⟨aI, nI'⟩
    | 1, hq => cases hq; exact ⟨aB, nB⟩
    | 2, hq => cases hq; exact ⟨aZ, nZ⟩
    | 3, hq => cases hq; exact ⟨aL, nL⟩
    | 4, hq => cases hq; exact ⟨fun n z => ⟨fun k h => (by cases h), kO, h3, comp, h4⟩, kO, comp, h3, h4, h1, h5⟩
    | k + 5, hq => simp [jtys] at hq
  · have h1 := (List.mem_filter.mp hw).2
    have h2 := hts w (List.mem_filter.mp hw).1
    cases w with
    | methodLinkNest a i x h => exact va_Nw.of rfl h2
    | _ => simp at h1
theorem whole_start {p : Program} {e : Env} {s : State} {m : MethodId} {below : List Frame} {meth : Method} {c : Code} (l : Launch) {b L : Nat} {xs : Nat → Int32} (hL : L ≤ 3072) (C0 : lw_At p s m meth c b L xs) : W p l e room_1 s m #[Value.ref b] below meth c s.heap [] 0 0 (lw_Z below #[Value.ref b] s) (entryFrame m ([Value.ref b] : List Value).toArray 4) := by
  obtain ⟨hx, hb, hr, hml, hown, hts, hX, hbl, hlocks, hgv⟩ := id C0
  have hA : ∀ q : Nat, s.heap.size ≤ q → (fun q : Nat => s.heap.size ≤ q) q := fun _ h => h
  obtain ⟨D, cA, hK, hN⟩ := K_start hts
  have hS : va_S (fun q : Nat => s.heap.size ≤ q) s.heap s.heap [] := va_S.rf
  have hP : va_P D jcl (jW [] cA (fun _ => 0) m0) s.heap := fun k q h => by simp [jW] at h
  have hD : va_D (fun q : Nat => s.heap.size ≤ q) (jW [] cA (fun _ => 0) m0) := ⟨fun i j p q h => by simp [jW] at h, fun k q h => by simp [jW] at h⟩
  have hl := lv_entry ([.ref b]) (n := 4) (Nat.le_of_ble_eq_true rfl)
  rw [lg_entry_eq]
  have hLo : jL ((lg_sl [Value.ref b] ++ List.replicate (4 - (lg_sl [Value.ref b]).length) Slot.unset).toArray) 4 (fun _ => 0) b [.float 0, .null, .null, .null] := by
    refine ⟨hl.1, hl.2.1, fun i v hi hv => ?_⟩
    match i, hi with
    | 0, hi => cases hi; exact lv_at hl 0 rfl
    | 1, hi => cases hi; exact absurd rfl hv
    | 2, hi => cases hi; exact absurd rfl hv
    | 3, hi => cases hi; exact absurd rfl hv
    | i + 4, hi => cases hi
  exact law_J (l := l) (xs := xs) hL p e s m #[Value.ref b] below meth c D cA (fun _ => 0) (fun _ => 0) (fun q => s.heap.size ≤ q) b s.heap [] _ ⟨hx, hb, hr, hml, hown, fun w hw => hts w (List.mem_filter.mp hw).1, hlocks, fun z => absurd z (by decide)⟩ ⟨⟨rfl, hX, hbl, fun q h => h⟩, sX_start hts hgv⟩ trivial ⟨Nat.zero_le _, Nat.zero_le _⟩ ⟨hA, ⟨hK, hN⟩, hP, hD, hS⟩ hLo
