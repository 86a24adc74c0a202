/-! THE CLASS: who, watch -/
section WhoC
variable {l : Launch} {G : jG}
/-- a call that may have made cells: all stands -/
def okA (a : aS) (B t d : Nat) (μ : jM) (G0 : jG) (μ' : jM) (G' : jG) : Prop := gGG G' ∧ (G0.length ≤ G'.length ∧ gEx G0 G') ∧ cJ G' a B t d μ' ∧ gPP μ' ∧ hi1 μ μ' ∧ jCl G' μ'
theorem c_X11_who (hG : gGG G) {μ : jM} (hP : gPP μ) {a : aS} {B t d : Nat} (hc : cJ G a B t d μ) (hk : aOK a B) (hg : 167 ≤ G.length) (hcl : jCl G μ) (x y : Int32) :
    jCA l mX11_who 7 2 5504 G [.ref 0, .int x, .int y] μ (fun r μ' G' => r = some (.int (rWho a x y)) ∧ okA a B t d μ G μ' G') tX := by
  refine jCA.of (ls := [.ref 0, .int x, .int y]) rfl rfl (jnd_ok rfl) (fun _ _ => Nat.le_of_ble_eq_true rfl) ?_
  have hd := hc.2.2.2.2.2.2.1
  have h20 := hd.2.1
  have hD := hk.2.2.2
  obtain ⟨X, hX⟩ : ∃ X : Option Value → jM → jG → Prop, X = fun r μ' G' => r = some (.int (rWho a x y)) ∧ okA a B t d μ G μ' G' := ⟨_, rfl⟩
  rw [← hX]
  have no : rWho a x y = -1 → J l mX11_who (jZA 7 2 5504 G.length X tX) G 0 0 20 [.ref 0, .int x, .int y] [] μ := fun e => by
    refine j_iconst (-1) dX11_who_20 rfl (by decide) ?_
    refine j_iretA dX11_who_21 rfl ?_
    rw [hX, e]
    exact ⟨rfl, hG, ⟨Nat.le_refl _, fun _ _ h => h⟩, hc, hP, ⟨fun _ _ _ => ⟨rfl, rfl, rfl⟩, hiK.refl⟩, hcl⟩
  refine j_iload_n dX11_who_0 rfl rfl ?_
  refine j_if_lt 20 dX11_who_1 rfl (by decide) (fun h => no (gIf_out (isN_lt h (by omega)))) (fun h0 => ?_)
  refine j_iload_n dX11_who_4 rfl rfl ?_
  refine j_aload_n dX11_who_5 rfl rfl ?_
  refine j_getR (ci := 11) (N := 9) (f := 6) (T := TX11) 63 dX11_who_6 rfl (hG 0 (16, 9) rfl) rfl (by decide) fl_X11_58 rfl (hP 0 6 63 rfl) ?_
  refine j_getI (ci := 0) (N := 10) (f := 0) (T := TX0) dX11_who_9 rfl (hG 63 (5, 10) rfl) rfl (by decide) fl_X11_248 rfl ?_
  refine j_icmp_gt 20 dX11_who_12 rfl (by decide) (fun h => ?_) (fun h1 => ?_)
  · rw [hd.1] at h
    exact no (gIf_out (isN_gt (by omega) h))
  · rw [hd.1] at h1
    obtain ⟨c, hcc, rfl⟩ := isN_no (n := (gD a).length) (by omega) h0 h1
    have ev : rWho a (nI c) y = _ := gIf_in hcc (by omega)
    refine j_iload_n dX11_who_15 rfl rfl ?_
    refine j_iconst (-1) dX11_who_16 rfl (by decide) ?_
    refine j_icmp_ge 22 dX11_who_17 rfl (by decide) (fun hy => ?_) (fun hy => ?_)
    · refine j_aload_n dX11_who_22 rfl rfl ?_
      refine j_getR (ci := 11) (N := 9) (f := 6) (T := TX11) 63 dX11_who_23 rfl (hG 0 (16, 9) rfl) rfl (by decide) fl_X11_58 rfl (hP 0 6 63 rfl) ?_
      refine j_iload_n dX11_who_26 rfl rfl ?_
      refine j_iconst (-1) dX11_who_27 rfl (by decide) ?_
      have hl := c_X0_learnFor (l := l) hG hP hc hk hg hcl (c := c) (q := 0) (by omega) (by decide)
      refine j_cVA (as := [.int (nI c), .int (-1)]) (rest := []) dX11_who_28 rfl vw_X11_251 (hG 63 (5, 10) rfl) rfl ⟨Nat.le_of_ble_eq_true rfl, Nat.le_of_ble_eq_true rfl⟩ rfl rfl (fun _ _ => Nat.le_of_ble_eq_true rfl) tX_ok (fun _ _ _ _ _ => trivial) ⟨Nat.le_of_ble_eq_true rfl, Nat.le_of_ble_eq_true rfl⟩ (jZg_A (Nat.le_refl _)) (jSc_r (by omega) (jSc_i (jSc_i jSc_0))) hl (fun r μ1 G1 hr => ?_)
      obtain ⟨rfl, hG1, hgl, hc1, hP1, hi, hcl1, so, M, hso, -, hlast, hkn⟩ := hr
      refine j_aload_n dX11_who_31 rfl rfl ?_
      refine j_getR (ci := 11) (N := 9) (f := 6) (T := TX11) 63 dX11_who_32 rfl (hG1 0 (16, 9) rfl) rfl (by decide) fl_X11_58 rfl (hP1 0 6 63 rfl) ?_
      refine j_iload_n dX11_who_35 rfl rfl ?_
      refine j_iload_n dX11_who_36 rfl rfl ?_
      have hf1 := hc1.1
      refine j_cV (as := [.int (nI c), .int y]) (rest := []) dX11_who_37 rfl vw_X11_254 (hG1 63 (5, 10) rfl) rfl ⟨Nat.le_of_ble_eq_true rfl, Nat.le_of_ble_eq_true rfl⟩ rfl rfl (fun _ _ => Nat.le_of_ble_eq_true rfl) (c_X0_pickSet hG1 hP1 hf1.1.1 hf1.1.2.1 hf1.1.2.2.1 hc1.2.2.2.2.2.2.1 (show c ≤ (gD a).length by omega) hD hlast hkn y) (fun r μ2 hr => ?_)
      obtain ⟨v, rfl, rfl, rfl⟩ := hr
      refine j_iretA dX11_who_40 rfl ?_
      rw [hX, ev, if_pos hy]
      exact ⟨rfl, hG1, hgl, hc1, hP1, hi, hcl1⟩
    · exact no (by rw [ev, if_neg hy])
theorem c_X11_watch (hG : gGG G) {μ : jM} (hP : gPP μ) {a : aS} {B t d : Nat} (hc : cJ G a B t d μ) (hk : aOK a B) (hg : 167 ≤ G.length) (hcl : jCl G μ) (x y : Int32) :
    jCA l mX11_watch 7 2 5504 G [.ref 0, .int x, .int y] μ (fun r μ' G' => r = some (.int (rWatch a x y)) ∧ okA a B t d μ G μ' G') tX := by
  refine jCA.of (ls := [.ref 0, .int x, .int y]) rfl rfl (jnd_ok rfl) (fun _ _ => Nat.le_of_ble_eq_true rfl) ?_
  have hd := hc.2.2.2.2.2.2.1
  have h20 := hd.2.1
  have hD := hk.2.2.2
  obtain ⟨X, hX⟩ : ∃ X : Option Value → jM → jG → Prop, X = fun r μ' G' => r = some (.int (rWatch a x y)) ∧ okA a B t d μ G μ' G' := ⟨_, rfl⟩
  rw [← hX]
  have no : rWatch a x y = -1 → J l mX11_watch (jZA 7 2 5504 G.length X tX) G 0 0 25 [.ref 0, .int x, .int y] [] μ := fun e => by
    refine j_iconst (-1) dX11_watch_25 rfl (by decide) ?_
    refine j_iretA dX11_watch_26 rfl ?_
    rw [hX, e]
    exact ⟨rfl, hG, ⟨Nat.le_refl _, fun _ _ h => h⟩, hc, hP, ⟨fun _ _ _ => ⟨rfl, rfl, rfl⟩, hiK.refl⟩, hcl⟩
  refine j_iload_n dX11_watch_0 rfl rfl ?_
  refine j_if_lt 25 dX11_watch_1 rfl (by decide) (fun h => no (gIf_out (isN_lt h (by omega)))) (fun h0 => ?_)
  refine j_iload_n dX11_watch_4 rfl rfl ?_
  refine j_aload_n dX11_watch_5 rfl rfl ?_
  refine j_getR (ci := 11) (N := 9) (f := 6) (T := TX11) 63 dX11_watch_6 rfl (hG 0 (16, 9) rfl) rfl (by decide) fl_X11_58 rfl (hP 0 6 63 rfl) ?_
  refine j_getI (ci := 0) (N := 10) (f := 0) (T := TX0) dX11_watch_9 rfl (hG 63 (5, 10) rfl) rfl (by decide) fl_X11_248 rfl ?_
  refine j_icmp_gt 25 dX11_watch_12 rfl (by decide) (fun h => ?_) (fun h1 => ?_)
  · rw [hd.1] at h
    exact no (gIf_out (isN_gt (by omega) h))
  · rw [hd.1] at h1
    obtain ⟨c, hcc, rfl⟩ := isN_no (n := (gD a).length) (by omega) h0 h1
    have ev : rWatch a (nI c) y = _ := gIf_in hcc (by omega)
    refine j_iload_n dX11_watch_15 rfl rfl ?_
    refine j_if_lt 25 dX11_watch_16 rfl (by decide) (fun h => no (by rw [ev]; exact gIf_out (isN_lt h (by decide)))) (fun hy0 => ?_)
    refine j_iload_n dX11_watch_19 rfl rfl ?_
    refine j_bipush 30 dX11_watch_20 rfl (by decide) ?_
    refine j_icmp_le 27 dX11_watch_22 rfl (by decide) (fun hy1 => ?_) (fun hy1 => no (by rw [ev]; exact gIf_out (isN_big (n := 30) (by decide) rfl hy1)))
    obtain ⟨n, hn, rfl⟩ := isN_ok (n := 30) (by decide) rfl hy0 hy1
    refine j_aload_n dX11_watch_27 rfl rfl ?_
    refine j_getR (ci := 11) (N := 9) (f := 6) (T := TX11) 63 dX11_watch_28 rfl (hG 0 (16, 9) rfl) rfl (by decide) fl_X11_58 rfl (hP 0 6 63 rfl) ?_
    refine j_iload_n dX11_watch_31 rfl rfl ?_
    refine j_iload_n dX11_watch_32 rfl rfl ?_
    have hl := c_X0_learnFor (l := l) hG hP hc hk hg hcl (c := c) (q := n + 1) (by omega) (by omega)
    rw [show nI (n + 1) - 1 = nI n from by rw [Int32.sub_eq_add_neg, nI_dec]] at hl
    refine j_cVA (as := [.int (nI c), .int (nI n)]) (rest := []) dX11_watch_33 rfl vw_X11_251 (hG 63 (5, 10) rfl) rfl ⟨Nat.le_of_ble_eq_true rfl, Nat.le_of_ble_eq_true rfl⟩ rfl rfl (fun _ _ => Nat.le_of_ble_eq_true rfl) tX_ok (fun _ _ _ _ _ => trivial) ⟨Nat.le_of_ble_eq_true rfl, Nat.le_of_ble_eq_true rfl⟩ (jZg_A (Nat.le_refl _)) (jSc_r (by omega) (jSc_i (jSc_i jSc_0))) hl (fun r μ1 G1 hr => ?_)
    obtain ⟨rfl, hG1, hgl, hc1, hP1, hi, hcl1, so, M, hso, hqM, hlast, hkn⟩ := hr
    refine j_aload_n dX11_watch_36 rfl rfl ?_
    refine j_getR (ci := 11) (N := 9) (f := 6) (T := TX11) 63 dX11_watch_37 rfl (hG1 0 (16, 9) rfl) rfl (by decide) fl_X11_58 rfl (hP1 0 6 63 rfl) ?_
    refine j_iload_n dX11_watch_40 rfl rfl ?_
    refine j_iload_n dX11_watch_41 rfl rfl ?_
    have hf1 := hc1.1
    refine j_cV (as := [.int (nI c), .int (nI n)]) (rest := []) dX11_watch_42 rfl vw_X11_257 (hG1 63 (5, 10) rfl) rfl ⟨Nat.le_of_ble_eq_true rfl, Nat.le_of_ble_eq_true rfl⟩ rfl rfl (fun _ _ => Nat.le_of_ble_eq_true rfl) (c_X0_roadToWatch hG1 hP1 hf1.1.1 hf1.1.2.1 hf1.1.2.2.1 hc1.2.2.2.2.2.2.1 (show c ≤ (gD a).length by omega) hD hlast (by omega) hso hkn) (fun r μ2 hr => ?_)
    obtain ⟨v, rfl, rfl, ho2⟩ := hr
    have hP2 := ho2.gPP hP1
    refine j_iretA dX11_watch_45 rfl ?_
    rw [hX, ev, gIf_in hn (by decide)]
    obtain ⟨g1, ⟨gd, gdt, gd7, gdo⟩, g3, g4, g5, g6, g7, g8, g9, g10⟩ := hc1
    have ec : ∀ c, c ≠ 69 → μ2.1 c = μ1.1 c := fun c h => ho2.2.1 c h
    refine ⟨rfl, hG1, hgl, ⟨⟨peI_lo ho2.o5 (fun c hc => by omega) (fun c hc => hc.elim) g1.1, by rw [ec 53 (by decide)]; exact g1.2.1, g1.2.2.1, by rw [ec 59 (by decide)]; exact g1.2.2.2⟩, ⟨gd, gdt, by rw [ho2.1]; exact gd7, ho2.tO gdo⟩, ?_, by rw [ec 0 (by decide)]; exact g4, ?_, ?_, ?_, ?_, by rw [ec 65 (by decide)]; exact g9, ?_⟩, hP2, hi.trans ⟨fun c q1 q2 => ⟨ec c (by omega), ho2.2.2 c (fun z => z), by rw [ho2.1]⟩, ho2.2.2 8 (fun z => z), fun c hk => by rw [ec c (by unfold kxI at hk; omega)]⟩, ?_⟩
    · unfold tapeC at g3 ⊢; rw [ec 1 (by decide), ec 2 (by decide)]; exact g3
    · unfold histC at g5 ⊢; rw [ec 54 (by decide), ec 55 (by decide)]; exact g5
    · unfold slotC at g6 ⊢; rw [ec 54 (by decide), ec 56 (by decide)]; exact g6
    · unfold dreamC at g7 ⊢; rw [ec 63 (by decide), ec 66 (by decide), ec 67 (by decide), ec 68 (by decide)]; exact g7
    · unfold lrC at g8 ⊢
      rw [ho2.1, ec 63 (by decide)]
      rcases g8 with h | ⟨so, wr, m, e1, e2, e3, e4, e5, e6, e7, e8, e9, e10, e11⟩
      · exact Or.inl h
      · exact Or.inr ⟨so, wr, m, e1, e2, e3, e4, e5, e6, e7, e8, e9, by rw [ec so (by omega)]; exact e10, by rw [ec wr (by omega)]; exact e11⟩
    · unfold anI at g10 ⊢; rw [ec 57 (by decide), ec 60 (by decide), ec 61 (by decide)]; exact g10
    · intro b f z hb hz
      rw [ho2.1] at hz
      exact hcl1 b f z hb hz
end WhoC
