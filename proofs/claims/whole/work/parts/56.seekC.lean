/-! the WAY as the class holds it in the Way at y -/
def bitsW : List Nat → Int32 → Int32
  | [], b => b
  | k :: W, b => bitsW W (b ||| (1 <<< (nI k &&& 31)))
def wyC (μ : jM) (y : Nat) (T : sT) (pr : Nat → Nat) (goal home : Nat) : Prop := μ.1 y 6 = nI (sD T pr goal home) ∧ ((sD T pr goal home < INF ∧ μ.1 y 5 = nI (sWy T pr (sD T pr goal) goal 8 home).length ∧ (∀ (j q : Nat), (sWy T pr (sD T pr goal) goal 8 home)[j]? = some q → μ.1 (y + 3) j = nI q) ∧ μ.1 y 7 = bitsW (sWy T pr (sD T pr goal) goal 8 home) 0) ∨ (¬ sD T pr goal home < INF ∧ μ.1 y 5 = 0 ∧ μ.1 y 7 = 0))
/-- the cells of the Way at y -/
def yI (y c : Nat) : Prop := c = y ∨ c = y + 3 ∨ c = y + 4
section SeekC
variable {l : Launch} {G : jG}
theorem c_X9_isThere (hG : gGG G) {μ : jM} (hP : gPP μ) {y n : Nat} (hy : tO gWay pWay G μ y) (hn : μ.1 y 6 = nI n) (hI : n ≤ INF) : jC0 l mX9_isThere 0 G [.ref y] μ (pI fun r μ' => μ' = μ ∧ r = if n < INF then 1 else 0) := by
  refine jC0.of' (ls := [.ref y]) rfl rfl rfl (fun _ _ => Nat.le_of_ble_eq_true rfl) ?_
  have h1 : ((1000000 : Int32) ≤ nI n) ↔ INF ≤ n := nI_leI (a := INF) (by decide) (by simp only [INF] at hI; omega)
  refine b_X9_isThere_0 hG hP hy (fun h => ⟨rfl, ?_⟩) (fun h => ⟨rfl, ?_⟩)
  · rw [hn, h1] at h; rw [if_neg (by omega)]
  · rw [hn, h1] at h; rw [if_pos (by omega)]
theorem c_X9_stepFrom (hG : gGG G) {μ : jM} (hP : gPP μ) {t y goal p n : Nat} {T : sT} {Lw : Nat → sLaw} {pr d : Nat → Nat} (ht : tO gTold pTold G μ t) (hy : tO gWay pWay G μ y) (hx : txC μ t T Lw) (hyr : 17 ≤ y ∧ y ≤ 47) (hpr : prOK T pr) (hd : isD T pr goal d) (hc : ∀ k, k < T 0 1 → μ.1 (y + 1) k = nI (pr k)) (hl : lfC (μ.1 (y + 4)) d) (hg : p ≠ goal) (hi : d p < INF) (hn : μ.1 y 5 = nI n) (hn8 : n < 8) :
    jC0 l mX9_stepFrom 0 G [.ref y, .ref t, .int (nI p)] μ (pI fun r μ' => r = nI ((thr T (fkF (tgtB T pr d p) (T 0 1)) p).getD 0) ∧ μ' = wI (wI (wI μ (y + 3) n (nI (fkF (tgtB T pr d p) (T 0 1)))) y 5 (nI (n + 1))) y 7 (μ.1 y 7 ||| (1 <<< (nI (fkF (tgtB T pr d p) (T 0 1)) &&& 31)))) := by
  refine jC0.of' (ls := [.ref y, .ref t, .int (nI p), .null, .null]) rfl rfl rfl (fun _ _ => Nat.le_of_ble_eq_true rfl) ?_
  have hvt := hx.2.2.2.2.2
  have hnk := hvt.1.2.1
  have hn0 := hvt.1.1
  obtain ⟨k, o, e1, hk, ho, h3, h4, ho8, hp8, hno, -⟩ := way_next hvt hd (fun k hk => (hpr k hk).1) hg hi
  rw [e1, ho]
  simp only [Option.getD_some]
  refine b_X9_stepFrom_0 hG hP ht hy ?_
  have hpp : (nI p).toNatClampNeg = p := nI_clamp (by omega)
  have hnr : μ.1 t 1 = nI (T 0 1) := hx.2.1.2.1
  -- one road: which end, then the look
  have road : ∀ j, j < T 0 1 → ∀ φ : Int32 → jM → Prop, J l mX9_stepFrom (jZ0 0 G (pI φ)) G 0 0 49 [.ref y, .ref t, .int (nI p), .int (nI j), .null] [.int (match thr T j p with | some o => nI o | none => -1)] μ → J l mX9_stepFrom (jZ0 0 G (pI φ)) G 0 0 2 [.ref y, .ref t, .int (nI p), .int (nI j), .null] [] μ := by
    intro j hj φ K
    have hgt : ¬ μ.1 t 1 ≤ nI j := by rw [hnr]; exact nI_ge hj (by omega)
    have cj : (nI j).toNatClampNeg = j := nI_clamp (by omega)
    obtain ⟨g1, g2, -, -⟩ := hx.2.2.1 j hj
    obtain ⟨p1, p2, p12, -⟩ := hvt.2.1 j hj
    refine b_X9_stepFrom_2 hG hP ht hy (fun h => absurd h hgt) (fun _ => vp_in_nI (by omega) (by decide)) (fun _ h1 h2 => ?_) (fun _ h1 h2 => ?_) (fun _ h1 => ?_)
    · rw [cj, g1] at h1; rw [cj, g2] at h2
      have e1 : ¬ T 1 j = p := fun z => h1 (by rw [z])
      have e2 : ¬ T 2 j = p := fun z => h2 (by rw [z])
      simpa [thr, e1, e2] using K
    · rw [cj, g1] at h1; rw [cj, g2] at h2; rw [cj, g1]
      have e1 : ¬ T 1 j = p := fun z => h1 (by rw [z])
      have e2 : T 2 j = p := (nI_eq (by omega) (by omega)).mp h2
      simpa [thr, e1, e2] using K
    · rw [cj, g1] at h1; rw [cj, g2]
      have e1 : T 1 j = p := (nI_eq (by omega) (by omega)).mp h1
      simpa [thr, e1] using K
  have loop : ∀ j, j ≤ k → J l mX9_stepFrom (jZ0 0 G (pI fun r μ' => r = nI o ∧ μ' = wI (wI (wI μ (y + 3) n (nI k)) y 5 (nI (n + 1))) y 7 (μ.1 y 7 ||| (1 <<< (nI k &&& 31))))) G 0 0 2 [.ref y, .ref t, .int (nI p), .int (nI j), .null] [] μ := by
    refine up_loop k ?_ (fun j hj ih => ?_)
    · refine road k hk _ ?_
      rw [ho]; simp only
      have ck : (nI k).toNatClampNeg = k := nI_clamp (by omega)
      have co : (nI o).toNatClampNeg = o := nI_clamp (by omega)
      have nm : ¬ nI o = -1 := fun z => by have := nI_toInt (n := o) (by omega); rw [z] at this; have e : (-1 : Int32).toInt = -1 := rfl; omega
      have heq : μ.1 (y + 4) (nI o).toNatClampNeg + μ.1 (y + 1) (nI k).toNatClampNeg = μ.1 (y + 4) (nI p).toNatClampNeg := by rw [co, ck, hpp, hl o ho8, hl p hp8, hc k hk, nI_add, h3]
      refine b_X9_stepFrom_49 hG hP ht hy (fun h => absurd h nm) (fun _ => vp_in_nI ho8 (by decide)) (fun _ => vp_in_nI (by omega) (by decide)) (fun _ => vp_in_nI hp8 (by decide)) (fun _ h => absurd heq h) (fun _ _ => by rw [hn]; exact vp_in_nI hn8 (by decide)) (fun _ _ => ⟨rfl, ?_⟩)
      have ny : y ≠ y + 3 := by omega
      rw [hn, nI_clamp (by omega), wI_ne ny, hn, nI_inc, wI_off' (by decide), wI_ne ny]
    · have hjn : j < T 0 1 := by omega
      refine road j hjn _ ?_
      have hn' := hno j hj
      have cj : (nI j).toNatClampNeg = j := nI_clamp (by omega)
      have next : J l mX9_stepFrom (jZ0 0 G (pI fun r μ' => r = nI o ∧ μ' = wI (wI (wI μ (y + 3) n (nI k)) y 5 (nI (n + 1))) y 7 (μ.1 y 7 ||| (1 <<< (nI k &&& 31))))) G 0 0 115 [.ref y, .ref t, .int (nI p), .int (nI j), .null] [] μ := by
        refine b_X9_stepFrom_115 hG hP ht hy ?_
        rw [nI_inc]; exact ih
      cases hoj : thr T j p with
      | none =>
        simp only
        refine b_X9_stepFrom_49 hG hP ht hy (fun _ => next) ?_ ?_ ?_ ?_ ?_ ?_
        all_goals (intro h; exact absurd rfl h)
      | some o' =>
        simp only
        have ho8' := (thr_in hvt hjn hoj).2.1
        have co : (nI o').toNatClampNeg = o' := nI_clamp (by omega)
        simp [tgtB, hoj] at hn'
        have hpI : pr j ≤ INF := by have := (hpr j hjn).2; simp only [INF] at *; omega
        have hdI := hd.2.1 o'
        have hne : ¬ μ.1 (y + 4) (nI o').toNatClampNeg + μ.1 (y + 1) (nI j).toNatClampNeg = μ.1 (y + 4) (nI p).toNatClampNeg := by
          rw [co, cj, hpp, hl o' ho8', hl p hp8, hc j hjn, nI_add]
          intro z
          exact hn' ((nI_eq (by simp only [INF] at *; omega) (by simp only [INF] at *; omega)).mp z)
        refine b_X9_stepFrom_49 hG hP ht hy (fun _ => next) (fun _ => vp_in_nI ho8' (by decide)) (fun _ => vp_in_nI (by omega) (by decide)) (fun _ => vp_in_nI hp8 (by decide)) (fun _ _ => next) (fun _ h => absurd h hne) (fun _ h => absurd h hne)
  exact loop 0 (by omega)
theorem bitsW_app {W : List Nat} {k : Nat} : ∀ {b : Int32}, bitsW (W ++ [k]) b = bitsW W b ||| (1 <<< (nI k &&& 31)) := by
  induction W with
  | nil => intro b; rfl
  | cons q W ih => intro b; exact ih
set_option maxHeartbeats 1000000 in
theorem c_X9_seek (hG : gGG G) {μ : jM} (hP : gPP μ) {t y a : Nat} {T : sT} {Lw : Nat → sLaw} {pr : Nat → Nat} (ht : tO gTold pTold G μ t) (hy : tO gWay pWay G μ y) (hx : txC μ t T Lw) (hyr : 17 ≤ y ∧ y ≤ 47) (hpr : prOK T pr) (hc : ∀ k, k < T 0 1 → μ.1 (y + 1) k = nI (pr k)) (ha : a < T 0 2) :
    jC0 l mX9_seek 2 G [.ref y, .ref t, .int (nI a)] μ (pV fun μ' => cOff (yI y) (fun _ => False) μ μ' ∧ μ'.1 y 0 = 1 ∧ μ'.1 y 1 = μ.1 y 1 ∧ wyC μ' y T pr (T 6 a) (T 5 a)) := by
  refine jC0.of' (ls := [.ref y, .ref t, .int (nI a), .null, .null, .null, .null]) rfl rfl rfl (fun _ _ => Nat.le_of_ble_eq_true rfl) ?_
  have hvt := hx.2.2.2.2.2
  have hnk := hvt.1.2.1
  have hn0 := hvt.1.1
  have hna := hvt.1.2.2.1
  have ht2 := hx.1
  obtain ⟨g5, g6, -⟩ := hx.2.2.2.1 a ha
  obtain ⟨p5, p6, -⟩ := hvt.2.2.1 a ha
  have hp1 : ∀ k, k < T 0 1 → 1 ≤ pr k := fun k hk => (hpr k hk).1
  have hd := sD_is hvt (goal := T 6 a) hp1
  have ca : (nI a).toNatClampNeg = a := nI_clamp (by omega)
  have n5 : t + 5 ≠ y := by omega
  have n4 : t + 4 ≠ y := by omega
  have hoff : cOff (yI y) (fun _ => False) μ (wI (wI (wI μ y 0 1) y 5 0) y 7 0) := ((cOff_wI (Or.inl rfl)).trans (cOff_wI (Or.inl rfl))).trans (cOff_wI (Or.inl rfl))
  have hxo : ∀ μ', cOff (yI y) (fun _ => False) μ μ' → txC μ' t T Lw := fun μ' h => txC_off h hx (fun c h1 h2 z => by unfold yI at z; omega) (fun c _ _ z => z.elim)
  generalize hμ0 : wI (wI (wI μ y 0 1) y 5 0) y 7 0 = μ0 at hoff
  have f0 : μ0.1 y 0 = 1 ∧ μ0.1 y 1 = μ.1 y 1 ∧ μ0.1 y 5 = 0 ∧ μ0.1 y 7 = 0 := by
    rw [← hμ0]
    refine ⟨?_, ?_, ?_, ?_⟩
    · rw [wI_off' (by decide), wI_off' (by decide), wI_at]
    · rw [wI_off' (by decide), wI_off' (by decide), wI_off' (by decide)]
    · rw [wI_off' (by decide), wI_at]
    · rw [wI_at]
  have hP0 := hoff.gPP hP
  have ht0 := hoff.tO ht
  have hy0 := hoff.tO hy
  have hx0 := hxo μ0 hoff
  have e5 : μ0.1 (t + 5) a = nI (T 6 a) := by rw [hoff.2.1 _ (by unfold yI; omega)]; exact g6
  have e4 : μ0.1 (t + 4) a = nI (T 5 a) := by rw [hoff.2.1 _ (by unfold yI; omega)]; exact g5
  have hc0 : ∀ k, k < T 0 1 → μ0.1 (y + 1) k = nI (pr k) := fun k hk => by rw [hoff.2.1 _ (by unfold yI; omega)]; exact hc k hk
  have hstart := @b_X9_seek_0 l G μ (fun μ' => cOff (yI y) (fun _ => False) μ μ' ∧ μ'.1 y 0 = 1 ∧ μ'.1 y 1 = μ.1 y 1 ∧ wyC μ' y T pr (T 6 a) (T 5 a)) (nI a) (fun μ' => ∃ F, μ' = sI μ0 (y + 4) F ∧ lfC F (sD T pr (T 6 a))) t y hG hP ht hy
  rw [hμ0, ca, e5, e4] at hstart
  refine hstart (vp_in_nI (by omega) (by decide)) (c_X9_measure hG hP0 ht0 hy0 hx0 hyr hpr hc0 p6) ?_
  rintro μ1 ⟨F, rfl, hF⟩
  have c5 : (nI (T 5 a)).toNatClampNeg = T 5 a := nI_clamp (by omega)
  have hF5 : (sI μ0 (y + 4) F).1 (y + 4) (T 5 a) = nI (sD T pr (T 6 a) (T 5 a)) := by rw [sI_eq]; exact hF _ (by omega)
  have hoff2 : cOff (yI y) (fun _ => False) μ (wI (sI μ0 (y + 4) F) y 6 (nI (sD T pr (T 6 a) (T 5 a)))) := (hoff.trans (cOff_sI (Or.inr (Or.inr rfl)))).trans (cOff_wI (Or.inl rfl))
  have hstep2 := @b_X9_seek_37 l G (sI μ0 (y + 4) F) (fun μ' => cOff (yI y) (fun _ => False) μ μ' ∧ μ'.1 y 0 = 1 ∧ μ'.1 y 1 = μ.1 y 1 ∧ wyC μ' y T pr (T 6 a) (T 5 a)) (nI (T 5 a)) (nI (T 6 a)) (fun r μ' => μ' = wI (sI μ0 (y + 4) F) y 6 (nI (sD T pr (T 6 a) (T 5 a))) ∧ r = if sD T pr (T 6 a) (T 5 a) < INF then 1 else 0) t y hG hP0 ht0 hy0
  rw [c5, hF5] at hstep2
  have g2 : (wI (sI μ0 (y + 4) F) y 6 (nI (sD T pr (T 6 a) (T 5 a)))).1 y 6 = nI (sD T pr (T 6 a) (T 5 a)) := wI_at
  refine hstep2 (vp_in_nI (by omega) (by decide)) (c_X9_isThere hG (hoff2.gPP hP) (hoff2.tO hy) g2 (hd.2.1 _)) ?_
  have f2 : ∀ i, i ≠ 6 → (wI (sI μ0 (y + 4) F) y 6 (nI (sD T pr (T 6 a) (T 5 a)))).1 y i = μ0.1 y i := fun i hi => by rw [wI_off' hi, sI_ne (by omega)]
  have l2 : (wI (sI μ0 (y + 4) F) y 6 (nI (sD T pr (T 6 a) (T 5 a)))).1 (y + 4) = F := by rw [wI_ne (by omega), sI_eq]
  generalize wI (sI μ0 (y + 4) F) y 6 (nI (sD T pr (T 6 a) (T 5 a))) = μ2 at hoff2 g2 f2 l2
  rintro r μ3 ⟨rfl, rfl⟩
  have hP2 := hoff2.gPP hP
  have ht2' := hoff2.tO ht
  have hy2 := hoff2.tO hy
  refine b_X9_seek_51 hG hP2 ht2' hy2 (fun h => ?_) (fun h => ?_)
  · have hfin : sD T pr (T 6 a) (T 5 a) < INF := Classical.byContradiction (fun z => by rw [if_neg z] at h; exact h rfl)
    have loop : ∀ (n p : Nat) (Wd : List Nat) (μ4 : jM), p < 8 → sD T pr (T 6 a) p < INF → rk (sD T pr (T 6 a)) p < n → Wd.length + n ≤ 8 → cOff (yI y) (fun _ => False) μ μ4 → μ4.1 y 0 = 1 → μ4.1 y 1 = μ.1 y 1 → μ4.1 y 6 = nI (sD T pr (T 6 a) (T 5 a)) → μ4.1 (y + 4) = F → μ4.1 y 5 = nI Wd.length → (∀ (j q : Nat), Wd[j]? = some q → μ4.1 (y + 3) j = nI q) → μ4.1 y 7 = bitsW Wd 0 → sWy T pr (sD T pr (T 6 a)) (T 6 a) 8 (T 5 a) = Wd ++ sWy T pr (sD T pr (T 6 a)) (T 6 a) n p →
        J l mX9_seek (jZ0 2 G (pV fun μ' => cOff (yI y) (fun _ => False) μ μ' ∧ μ'.1 y 0 = 1 ∧ μ'.1 y 1 = μ.1 y 1 ∧ wyC μ' y T pr (T 6 a) (T 5 a))) G 0 0 61 [.ref y, .ref t, .null, .null, .int (nI (T 6 a)), .int (nI p), .int (nI Wd.length)] [] μ4 := by
      intro n
      induction n with
      | zero => intro p Wd μ4 _ _ h; omega
      | succ n ih =>
        intro p Wd μ4 hp8 hpI hrk hlen ho h0 h1 h6 hF4 h5 hW h7 hWW
        have hP4 := ho.gPP hP
        have ht4 := ho.tO ht
        have hy4 := ho.tO hy
        have hx4 := hxo μ4 ho
        have hc4 : ∀ k, k < T 0 1 → μ4.1 (y + 1) k = nI (pr k) := fun k hk => by rw [ho.2.1 _ (by unfold yI; omega)]; exact hc k hk
        by_cases hg : p = T 6 a
        · have e : sWy T pr (sD T pr (T 6 a)) (T 6 a) (n + 1) p = [] := by unfold sWy; rw [if_pos hg]
          rw [e, List.append_nil] at hWW
          have fin : wyC μ4 y T pr (T 6 a) (T 5 a) := ⟨h6, Or.inl ⟨hfin, by rw [hWW]; exact h5, by rw [hWW]; exact hW, by rw [hWW]; exact h7⟩⟩
          refine b_X9_seek_61 (ψ2 := fun _ _ => True) hG hP4 ht4 hy4 (fun _ => ⟨ho, h0, h1, fin⟩) (fun _ _ => ⟨ho, h0, h1, fin⟩) (fun _ h => absurd (by rw [hg]) h) (fun _ h => absurd (by rw [hg]) h)
        · have hne : ¬ nI p = nI (T 6 a) := fun z => hg ((nI_eq (by omega) (by omega)).mp z)
          have h8 : ¬ (8 : Int32) ≤ nI Wd.length := nI_ge (b := 8) (by omega) (by decide)
          refine b_X9_seek_61 hG hP4 ht4 hy4 (fun h => absurd h h8) (fun _ h => absurd h hne) (fun _ _ => c_X9_stepFrom hG hP4 ht4 hy4 hx4 hyr hpr hd hc4 (by rw [hF4]; exact hF) hg hpI h5 (by omega)) (fun _ _ => ?_)
          obtain ⟨k, o, e1, hk, hok, h3, h4, ho8, -, -, hrk2⟩ := way_next hvt hd hp1 hg hpI
          rw [e1, hok]
          simp only [Option.getD_some]
          rintro r μ5 ⟨rfl, rfl⟩
          have ho5 : cOff (yI y) (fun _ => False) μ (wI (wI (wI μ4 (y + 3) Wd.length (nI k)) y 5 (nI (Wd.length + 1))) y 7 (μ4.1 y 7 ||| (1 <<< (nI k &&& 31)))) := ((ho.trans (cOff_wI (Or.inr (Or.inl rfl)))).trans (cOff_wI (Or.inl rfl))).trans (cOff_wI (Or.inl rfl))
          refine b_X9_seek_82 hG (ho5.gPP hP) (ho5.tO ht) (ho5.tO hy) ?_
          rw [nI_inc]
          have e : sWy T pr (sD T pr (T 6 a)) (T 6 a) (n + 1) p = k :: sWy T pr (sD T pr (T 6 a)) (T 6 a) n o := by
            conv => lhs; unfold sWy
            rw [if_neg hg, e1, hok]; rfl
          have hyy : y ≠ y + 3 := by omega
          have := ih o (Wd ++ [k]) _ ho8 (by omega) (by omega) (by simp; omega) ho5
            (by rw [wI_off' (by decide), wI_off' (by decide), wI_ne hyy]; exact h0) (by rw [wI_off' (by decide), wI_off' (by decide), wI_ne hyy]; exact h1) (by rw [wI_off' (by decide), wI_off' (by decide), wI_ne hyy]; exact h6) (by rw [wI_ne (by omega), wI_ne (by omega), wI_ne (by omega)]; exact hF4)
            (by rw [wI_off' (by decide), wI_at]; simp) (fun j q hj => ?_) (by rw [wI_at, h7, bitsW_app]) (by rw [hWW, e]; simp)
          · simpa using this
          · rw [wI_ne (by omega), wI_ne (by omega), wI_eq]
            by_cases hjl : j < Wd.length
            · rw [List.getElem?_append_left hjl] at hj
              rw [upd_ne (by omega)]; exact hW j q hj
            · by_cases hje : j = Wd.length
              · subst hje
                simp at hj
                rw [upd_at, hj]
              · rw [List.getElem?_eq_none (by simp; omega)] at hj; cases hj
    exact loop 8 (T 5 a) [] _ (by omega) hfin (by have := rk_7 (d := sD T pr (T 6 a)) (p := T 5 a) (by omega); omega) (by simp) hoff2 (by rw [f2 0 (by decide)]; exact f0.1) (by rw [f2 1 (by decide)]; exact f0.2.1) g2 l2 (by rw [f2 5 (by decide)]; exact f0.2.2.1) (fun j q hj => by simp at hj) (by rw [f2 7 (by decide)]; exact f0.2.2.2) (by simp)
  · have hnf : ¬ sD T pr (T 6 a) (T 5 a) < INF := fun z => by rw [if_pos z] at h; exact absurd h (by decide)
    exact ⟨hoff2, by rw [f2 0 (by decide)]; exact f0.1, by rw [f2 1 (by decide)]; exact f0.2.1, g2, Or.inr ⟨hnf, by rw [f2 5 (by decide)]; exact f0.2.2.1, by rw [f2 7 (by decide)]; exact f0.2.2.2⟩⟩
end SeekC
