/-! CONSTRUCTORS: Tokens -/
/-- the words, letter by letter: which word, the row so far -/
def tkT (c : Int32) (p : Nat × (Nat → Int64)) : Nat × (Nat → Int64) := if c = 32 then (p.1 + 1, p.2) else if p.1 < 23 then (p.1, vp_updL p.2 p.1 (p.2 p.1 * 32 + ((c - 97) + 1).toInt64)) else p
def tkS : Nat → Nat × (Nat → Int64)
  | 0 => (0, fun _ => 0)
  | i + 1 => tkT (strB.getD i 0) (tkS i)
theorem tkS_le : ∀ i, (tkS i).1 ≤ i
  | 0 => Nat.le_refl _
  | i + 1 => by
    have := tkS_le i
    show (tkT (strB.getD i 0) (tkS i)).1 ≤ i + 1
    unfold tkT
    split
    · exact Nat.succ_le_succ this
    · split
      · exact Nat.le_succ_of_le this
      · exact Nat.le_succ_of_le this
theorem tkS_hi : ∀ i j, 23 ≤ j → (tkS i).2 j = 0
  | 0, _, _ => rfl
  | i + 1, j, h => by
    have := tkS_hi i j h
    show (tkT (strB.getD i 0) (tkS i)).2 j = 0
    unfold tkT
    split
    · exact this
    · split
      · rw [← this]; exact if_neg (by omega)
      · exact this
theorem tkS_words : ∀ j, j < 23 → (tkS 124).2 j = wordC j := by decide +kernel
theorem tkS_end : (tkS 124).2 = wordC := funext fun j => by
  by_cases h : j < 23
  · exact tkS_words j h
  · rw [tkS_hi 124 j (by omega)]
    have : wrds[j]? = none := List.getElem?_eq_none (by have : wrds.length = 23 := rfl; omega)
    unfold wordC
    rw [this]
section Tok
variable {l : Launch} {G : jG} {μ : jM}
theorem wl_ctor (x0 : Int64) (x2 : Int32) : jC0 l mX7_withLetter 0 G [.long x0, .int x2] μ (pJ fun v μ' => v = x0 * 32 + ((x2 - 97) + 1).toInt64 ∧ μ' = μ) := by
  refine jC0.of (ls := [.long x0, .null, .int x2]) rfl rfl (jnd_ok rfl) (fun _ _ => Nat.le_of_ble_eq_true rfl) ?_
  refine j_lload_n dX7_withLetter_0 rfl rfl ?_
  refine j_ldc2 32 dX7_withLetter_1 rfl ck_X7_83 ?_
  refine j_lmul dX7_withLetter_4 rfl ?_
  refine j_iload_n dX7_withLetter_5 rfl rfl ?_
  refine j_bipush 97 dX7_withLetter_6 rfl (by decide) ?_
  refine j_isub dX7_withLetter_8 rfl ?_
  refine j_iconst 1 dX7_withLetter_9 rfl (by decide) ?_
  refine j_iadd dX7_withLetter_10 rfl ?_
  refine j_i2l dX7_withLetter_11 rfl ?_
  refine j_ladd dX7_withLetter_12 rfl ?_
  exact j_lret dX7_withLetter_13 rfl ⟨rfl, rfl⟩
theorem wL_sL {f : Nat → Int64} {w : Nat} {x : Int64} : wL (sL μ 8 f) 8 w x = sL μ 8 (vp_updL f w x) := by
  unfold wL sL
  refine Prod.ext rfl (Prod.ext (funext fun c => ?_) rfl)
  by_cases h : c = 8
  · simp [h]
  · simp [h]
theorem tk_loop {post : Option Value → jM → jG → Prop} (h8 : G[8]? = some (3, 23)) (h4 : G[4]? = some (12, 4)) (p8 : μ.2.2 4 3 = some 8) (K : ∀ a b c, J l mX7_init (jZA 6 4 1226 5 post sX) G 4 1226 99 [.ref 4, a, b, c] [] (sL μ 8 wordC)) :
    ∀ (m i : Nat) (u : Value), m + i = 124 → J l mX7_init (jZA 6 4 1226 5 post sX) G 4 1226 43 [.ref 4, .int (nI (tkS i).1), .int (nI i), u] [] (sL μ 8 (tkS i).2) := by
  intro m
  induction m with
  | zero =>
    intro i u hi
    have hi : i = 124 := by omega
    subst hi
    refine j_iload_n dX7_init_43 rfl rfl ?_
    refine j_strLen rfl (fun _ _ _ _ h => h) dX7_init_44 dX7_init_46 rfl ⟨Nat.le_of_ble_eq_true rfl, Nat.le_of_ble_eq_true rfl⟩ (fun _ _ => Nat.le_of_ble_eq_true rfl) ?_
    refine j_icmp_ge 99 dX7_init_49 rfl (by decide) (fun _ => ?_) (fun h => absurd (by decide) h)
    rw [tkS_end]
    exact K _ _ _
  | succ m ih =>
    intro i u hi
    have hw := tkS_le i
    refine j_iload_n dX7_init_43 rfl rfl ?_
    refine j_strLen rfl (fun _ _ _ _ h => h) dX7_init_44 dX7_init_46 rfl ⟨Nat.le_of_ble_eq_true rfl, Nat.le_of_ble_eq_true rfl⟩ (fun _ _ => Nat.le_of_ble_eq_true rfl) ?_
    refine j_icmp_ge 99 dX7_init_49 rfl (by decide) (fun h => absurd h (nI_ge (b := 124) (by omega) (by decide))) (fun _ => ?_)
    refine j_strAt (i := i) rfl (fun _ _ _ _ h => h) dX7_init_52 dX7_init_54 dX7_init_55 rfl rfl (by omega) ⟨Nat.le_of_ble_eq_true rfl, Nat.le_of_ble_eq_true rfl⟩ (fun _ _ => Nat.le_of_ble_eq_true rfl) ?_
    have hs : tkS (i + 1) = tkT (strB.getD i 0) (tkS i) := rfl
    revert hs
    generalize strB.getD i 0 = c
    intro hs
    refine j_istore_n (i := 3) (ls' := [.ref 4, .int (nI (tkS i).1), .int (nI i), .int c]) dX7_init_58 rfl rfl (Nat.le_of_ble_eq_true rfl) rfl ?_
    have nx : ∀ w f, tkS (i + 1) = (w, f) → J l mX7_init (jZA 6 4 1226 5 post sX) G 4 1226 93 [.ref 4, .int (nI w), .int (nI i), .int c] [] (sL μ 8 f) := fun w f e => by
      refine j_iinc (nI (i + 1)) (ls' := [.ref 4, .int (nI w), .int (nI (i + 1)), .int c]) dX7_init_93 rfl rfl (nI_1 i) (Nat.le_of_ble_eq_true rfl) rfl ?_
      refine j_goto 43 dX7_init_96 (by decide) ?_
      have := ih (i + 1) (.int c) (by omega)
      rw [e] at this
      exact this
    refine j_iload_n dX7_init_59 rfl rfl ?_
    refine j_bipush 32 dX7_init_60 rfl (by decide) ?_
    refine j_icmp_ne 71 dX7_init_62 rfl (by decide) (fun hc => ?_) (fun hc => ?_)
    · refine j_iload_n dX7_init_71 rfl rfl ?_
      refine j_bipush 23 dX7_init_72 rfl (by decide) ?_
      refine j_icmp_ge 93 dX7_init_74 rfl (by decide) (fun h => ?_) (fun h => ?_)
      · have h23 : ¬ (tkS i).1 < 23 := fun z => absurd h (nI_ge (b := 23) z (by decide))
        refine nx _ _ ?_
        rw [hs]
        unfold tkT
        rw [if_neg hc, if_neg h23]
      · have h23 : (tkS i).1 < 23 := by
          by_cases z : (tkS i).1 < 23
          · exact z
          · exact absurd (nI_le (a := 23) (by omega) (by omega)) h
        refine j_aload_n dX7_init_77 rfl rfl ?_
        refine j_getR (ci := 7) (N := 4) (f := 3) (T := TX7) 8 dX7_init_78 rfl h4 rfl (by decide) fl_X7_22 rfl p8 ?_
        refine j_iload_n dX7_init_81 rfl rfl ?_
        refine j_aload_n dX7_init_82 rfl rfl ?_
        refine j_getR (ci := 7) (N := 4) (f := 3) (T := TX7) 8 dX7_init_83 rfl h4 rfl (by decide) fl_X7_22 rfl p8 ?_
        refine j_iload_n dX7_init_86 rfl rfl ?_
        refine j_lald dX7_init_87 rfl h8 (vp_in_nI h23 (by decide)) ?_
        refine j_iload_n dX7_init_88 rfl rfl ?_
        rw [nI_clamp (by omega)]
        have e8 : (sL μ 8 (tkS i).2).2.1 8 (tkS i).1 = (tkS i).2 (tkS i).1 := rfl
        rw [e8]
        refine j_cS (as := [.long ((tkS i).2 (tkS i).1), .int c]) (rest := [.int (nI (tkS i).1), .ref 8]) dX7_init_89 rfl vw_X7_37 ⟨Nat.le_of_ble_eq_true rfl, Nat.le_of_ble_eq_true rfl⟩ rfl rfl (fun _ _ => Nat.le_of_ble_eq_true rfl) (wl_ctor _ _) (fun r μ1 hr => ?_)
        obtain ⟨v, rfl, rfl, rfl⟩ := hr
        refine j_last dX7_init_92 rfl h8 (vp_in_nI h23 (by decide)) ?_
        rw [nI_clamp (by omega), wL_sL]
        refine nx _ _ ?_
        rw [hs]
        unfold tkT
        rw [if_neg hc, if_pos h23]
    · refine j_iinc (nI ((tkS i).1 + 1)) (ls' := [.ref 4, .int (nI ((tkS i).1 + 1)), .int (nI i), .int c]) dX7_init_65 rfl rfl (nI_1 _) (Nat.le_of_ble_eq_true rfl) rfl ?_
      refine j_goto 93 dX7_init_68 (by decide) ?_
      refine nx _ _ ?_
      rw [hs]
      unfold tkT
      rw [if_pos hc]
end Tok
theorem sL_zero {μ : jM} {f : Nat → Int64} (h : μ.2.1 8 = f) : sL μ 8 f = μ := by
  unfold sL
  refine Prod.ext rfl (Prod.ext (funext fun c => ?_) rfl)
  by_cases hc : c = 8
  · subst hc; simp [h]
  · simp [hc]
theorem c_X7_init {l : Launch} (G : jG) (μ : jM) (h0 : G.length = 5) (t0 : G[4]? = some (12, 4)) (c0 : jCl G μ) : jCA l mX7_init 6 4 1226 G [.ref 4] μ (fun r μ' G' => r = none ∧ G' = G ++ sX7 ∧ μ' = kX7 μ) sX := by
  refine jCA.of (ls := [.ref 4, .null, .null, .null]) rfl rfl (jnd_ok rfl) (fun _ _ => (Nat.le_of_ble_eq_true rfl)) ?_
  rw [h0]
  refine j_aload_n dX7_init_0 rfl rfl ?_
  refine j_objInit dX7_init_1 rfl ml_X7_5 im_obj co_obj ⟨(Nat.le_of_ble_eq_true rfl), (Nat.le_of_ble_eq_true rfl)⟩ rfl ?_
  refine j_aload_n dX7_init_4 rfl rfl ?_
  refine j_sipush 401 dX7_init_5 rfl (by decide) ?_
  refine k_arr (g := 5) (t := 4) (f := 0) (ci := 7) (NF := 4) (T := TX7) (kd := 0) (N := 401) (k' := 1) (n' := 401) h0 c0 (jSc_r (by omega) (jSc_n (jSc_n (jSc_n jSc_0)))) (by omega) dX7_init_8 dX7_init_10 rfl rfl (Or.inl ⟨rfl, rfl⟩) ac_int (by decide) rfl (by decide) rfl rfl (Nat.le_of_ble_eq_true rfl) (Nat.le_of_ble_eq_true rfl) t0 rfl (by decide) fl_X7_11 rfl rfl rfl rfl ?_
  have h1 := gl (s := [(0, 401)]) (m := 1) (g' := 6) h0 rfl rfl
  have c1 := cl_arr (sh := (0, 401)) (f := 0) h0 c0 (show 4 < 5 by omega)
  have t1 := gx (s := [(0, 401)]) t0
  refine j_aload_n dX7_init_13 rfl rfl ?_
  refine j_sipush 401 dX7_init_14 rfl (by decide) ?_
  refine k_arr (g := 6) (t := 4) (f := 1) (ci := 7) (NF := 4) (T := TX7) (kd := 0) (N := 401) (k' := 2) (n' := 802) h1 c1 (jSc_r (by omega) (jSc_n (jSc_n (jSc_n jSc_0)))) (by omega) dX7_init_17 dX7_init_19 rfl rfl (Or.inl ⟨rfl, rfl⟩) ac_int (by decide) rfl (by decide) rfl rfl (Nat.le_of_ble_eq_true rfl) (Nat.le_of_ble_eq_true rfl) t1 rfl (by decide) fl_X7_15 rfl rfl rfl rfl ?_
  have h2 := gl (s := [(0, 401)]) (m := 1) (g' := 7) h1 rfl rfl
  have c2 := cl_arr (sh := (0, 401)) (f := 1) h1 c1 (show 4 < 6 by omega)
  have t2 := gx (s := [(0, 401)]) t1
  refine j_aload_n dX7_init_22 rfl rfl ?_
  refine j_sipush 401 dX7_init_23 rfl (by decide) ?_
  refine k_arr (g := 7) (t := 4) (f := 2) (ci := 7) (NF := 4) (T := TX7) (kd := 3) (N := 401) (k' := 3) (n' := 1203) h2 c2 (jSc_r (by omega) (jSc_n (jSc_n (jSc_n jSc_0)))) (by omega) dX7_init_26 dX7_init_28 rfl rfl (Or.inr (Or.inr (Or.inr ⟨rfl, rfl⟩))) ac_long (by decide) rfl (by decide) rfl rfl (Nat.le_of_ble_eq_true rfl) (Nat.le_of_ble_eq_true rfl) t2 rfl (by decide) fl_X7_18 rfl rfl rfl rfl ?_
  have h3 := gl (s := [(3, 401)]) (m := 1) (g' := 8) h2 rfl rfl
  have c3 := cl_arr (sh := (3, 401)) (f := 2) h2 c2 (show 4 < 7 by omega)
  have t3 := gx (s := [(3, 401)]) t2
  refine j_aload_n dX7_init_31 rfl rfl ?_
  refine j_bipush 23 dX7_init_32 rfl (by decide) ?_
  refine k_arr (g := 8) (t := 4) (f := 3) (ci := 7) (NF := 4) (T := TX7) (kd := 3) (N := 23) (k' := 4) (n' := 1226) h3 c3 (jSc_r (by omega) (jSc_n (jSc_n (jSc_n jSc_0)))) (by omega) dX7_init_34 dX7_init_36 rfl rfl (Or.inr (Or.inr (Or.inr ⟨rfl, rfl⟩))) ac_long (by decide) rfl (by decide) rfl rfl (Nat.le_of_ble_eq_true rfl) (Nat.le_of_ble_eq_true rfl) t3 rfl (by decide) fl_X7_22 rfl rfl rfl rfl ?_
  have t4 := gx (s := [(3, 23)]) t3
  have t8 := gw (s := [(3, 23)]) (i := 0) (sh := (3, 23)) h3 rfl
  have eG : G ++ [(0, 401)] ++ [(0, 401)] ++ [(3, 401)] ++ [(3, 23)] = G ++ sX7 := by simp only [List.append_assoc, List.cons_append, List.nil_append]; rfl
  rw [eG] at t4 t8 ⊢
  show J l mX7_init _ (G ++ sX7) 4 1226 39 [.ref 4, .null, .null, .null] [] (kX7a μ)
  have e0 : sL (kX7a μ) 8 (tkS 0).2 = kX7a μ := sL_zero rfl
  rw [← e0]
  refine j_iconst 0 dX7_init_39 rfl (by decide) ?_
  refine j_istore_n (i := 1) (ls' := [.ref 4, .int 0, .null, .null]) dX7_init_40 rfl rfl (Nat.le_of_ble_eq_true rfl) rfl ?_
  refine j_iconst 0 dX7_init_41 rfl (by decide) ?_
  refine j_istore_n (i := 2) (ls' := [.ref 4, .int 0, .int 0, .null]) dX7_init_42 rfl rfl (Nat.le_of_ble_eq_true rfl) rfl ?_
  exact tk_loop t8 t4 rfl (fun a b c => j_vretA dX7_init_99 rfl ⟨rfl, rfl, rfl⟩) 124 0 .null rfl
