/-! THE CLASS: the fewest GATES that leave nobody free -/
def pcT (y : Nat) : Nat → Nat
  | 0 => 0
  | n + 1 => pcT y n + (if y.testBit n then 1 else 0)
theorem pcT_le {y : Nat} : ∀ n, pcT y n ≤ n := by
  intro n
  induction n with
  | zero => exact Nat.le_refl _
  | succ n ih => unfold pcT; split <;> omega
theorem pcT_full {y : Nat} : ∀ n, pcT y n = n → ∀ i, i < n → y.testBit i = true := by
  intro n
  induction n with
  | zero => intro _ i hi; omega
  | succ n ih =>
    intro h i hi
    unfold pcT at h
    have hl := pcT_le (y := y) n
    by_cases hb : y.testBit n = true
    · rw [if_pos hb] at h
      by_cases e : i = n
      · rw [e]; exact hb
      · exact ih (by omega) i (by omega)
    · rw [if_neg hb] at h; omega
theorem pcT_high {y n : Nat} (h : ∀ i, n ≤ i → y.testBit i = false) : ∀ m, pcT y (n + m) = pcT y n := by
  intro m
  induction m with
  | zero => rfl
  | succ m ih =>
    show pcT y (n + m) + (if y.testBit (n + m) then 1 else 0) = _
    rw [h _ (by omega), ih]; rfl
theorem bt_nI {y : Nat} (i : Nat) (hi : i < 32) : bt (nI y) i = y.testBit i := by
  have : (nI y).toBitVec = BitVec.ofNat 32 y := by
    unfold nI
    simp
  unfold bt
  rw [this, BitVec.getLsbD_ofNat]
  simp [hi]
theorem sBits_nI {y : Nat} : ∀ n, n ≤ 31 → sBits (nI y) n = nI (pcT y n) := by
  intro n
  induction n with
  | zero => intro _; rfl
  | succ n ih =>
    intro h
    unfold sBits pcT
    rw [ih (by omega)]
    by_cases hb : y.testBit n = true
    · rw [if_pos hb, (sh1_1 (by omega) (nI y)).mpr (by rw [bt_nI n (by omega)]; exact hb), nI_inc]
    · rw [if_neg hb, (sh1_0 (by omega) (nI y)).mpr (by rw [bt_nI n (by omega)]; simpa using hb), Int32.add_zero]; rfl
/-- nobody goes free with these GATES -/
def noF (T : sT) (Lw : Nat → sLaw) (od : Int32) (S : sR) (g : Nat) : Prop := ∀ a, a < T 0 2 → ¬ sFree T Lw (nI (T 0 7)) od (upd S 64 (nI g)) a
/-- the fewest, the least of them -/
def stP (T : sT) (Lw : Nat → sLaw) (od : Int32) (S : sR) (x : Nat) : Prop := x < 2 ^ T 0 1 ∧ noF T Lw od S x ∧ ∀ y, y < 2 ^ T 0 1 → noF T Lw od S y → pcT x 12 < pcT y 12 ∨ (pcT x 12 = pcT y 12 ∧ x ≤ y)
theorem stP_uniq {T : sT} {Lw : Nat → sLaw} {od : Int32} {S : sR} {x y : Nat} (hx : stP T Lw od S x) (hy : stP T Lw od S y) : x = y := by
  have h1 := hx.2.2 y hy.1 hy.2.1
  have h2 := hy.2.2 x hx.1 hx.2.1
  omega
noncomputable def stX (T : sT) (Lw : Nat → sLaw) (S : sR) : Nat := @Classical.epsilon Nat ⟨0⟩ (stP T Lw (-1) S)
theorem stX_eq {T : sT} {Lw : Nat → sLaw} {S : sR} {x : Nat} (h : stP T Lw (-1) S x) : stX T Lw S = x := stP_uniq (Classical.epsilon_spec_aux ⟨0⟩ _ ⟨x, h⟩) h
noncomputable def stV (T : sT) (Lw : Nat → sLaw) (S : sR) : Int32 × Int32 := (sBits (nI (stX T Lw S)) 12, nI (stX T Lw S))
theorem sFree_od {T : sT} {Lw : Nat → sLaw} {S : sR} {lots od od' : Int32} {a : Nat} (h : ∀ k, sRt S od k = sRt S od' k) : sFree T Lw lots od S a ↔ sFree T Lw lots od' S a := by
  unfold sFree; rw [sDs_od h, sWl_od h]
theorem noF_od {T : sT} {Lw : Nat → sLaw} {S : sR} {r : Nat} (hr : r ≤ 9) (h : S 65 = nI r) (g : Nat) : noF T Lw (S 65) S g ↔ noF T Lw (-1) S g := by
  unfold noF
  have u65 : upd S 64 (nI g) 65 = S 65 := upd_ne (by decide)
  have := od_plain hr h (upd S 64 (nI g)) u65
  constructor
  · intro z a ha hf; exact z a ha ((sFree_od this).mpr hf)
  · intro z a ha hf; exact z a ha ((sFree_od this).mp hf)
theorem pow_bits {n y : Nat} (hy : y < 2 ^ n) : ∀ i, n ≤ i → y.testBit i = false := fun i hi => Nat.testBit_lt_two_pow (Nat.lt_of_lt_of_le hy (Nat.pow_le_pow_right (by decide) hi))
theorem pcT_12 {n y : Nat} (hn : n ≤ 12) (hy : y < 2 ^ n) : pcT y 12 = pcT y n := by
  have := pcT_high (pow_bits hy) (12 - n)
  rwa [show n + (12 - n) = 12 by omega] at this
theorem full_is {n y : Nat} (hn : n ≤ 12) (hy : y < 2 ^ n) (h : n ≤ pcT y 12) : y = 2 ^ n - 1 := by
  rw [pcT_12 hn hy] at h
  have h2 := pcT_full (y := y) n (by have := pcT_le (y := y) n; omega)
  apply Nat.eq_of_testBit_eq
  intro i
  rw [Nat.testBit_two_pow_sub_one]
  by_cases hi : i < n
  · rw [h2 i hi]; simp [hi]
  · rw [pow_bits hy i (by omega)]; simp [hi]
theorem noF_full {T : sT} {Lw : Nat → sLaw} (hv : vT T Lw) {od : Int32} {S : sR} : noF T Lw od S (2 ^ T 0 1 - 1) := by
  intro a ha hf
  have hne := (hv.2.2.1 a ha).2.2.1
  obtain ⟨hI, hW⟩ := hf
  have hp : ∀ k, k < T 0 1 → 1 ≤ sPr T Lw (upd S 64 (nI (2 ^ T 0 1 - 1))) (nI (T 0 7)) od a k := fun k hk => (sPr_OK hv k hk).1
  obtain ⟨k, o, e1, hk, -⟩ := way_next hv (sD_is hv (goal := T 6 a) hp) hp hne hI
  have h12 := hv.1.2.1
  refine hW k ?_ ?_
  · unfold sWl sWy
    rw [if_neg hne]
    unfold sDs
    rw [e1]; exact List.mem_cons_self
  · rw [sGt_bt (by omega), upd_at, bt_nI k (by omega), Nat.testBit_two_pow_sub_one]
    simp [hk]
/-- GATES make ROADS dearer -/
theorem gate_dear {T : sT} {Lw : Nat → sLaw} (hv : vT T Lw) {S : sR} {lots od g : Int32} {a k : Nat} (hk : k < T 0 1) : sPr T Lw (upd S 64 0) lots od a k ≤ sPr T Lw (upd S 64 g) lots od a k ∧ (¬ sGt (upd S 64 g) k → sPr T Lw (upd S 64 g) lots od a k = sPr T Lw (upd S 64 0) lots od a k) := by
  have h12 := hv.1.2.1
  have u : ∀ x j, j ≠ 64 → upd S 64 x j = S j := fun x j hj => upd_ne hj
  have hd : sDn T Lw (upd S 64 g) k ↔ sDn T Lw (upd S 64 0) k := by
    unfold sDn; rw [sBears_congr (S := upd S 64 0) (S' := upd S 64 g) (by rw [u _ _ (by decide), u _ _ (by decide)]), u _ k (by omega), u _ k (by omega)]
  have ho : sOwes T Lw (upd S 64 g) lots od a k = sOwes T Lw (upd S 64 0) lots od a k := sOwes_congr (by rw [u _ _ (by decide), u _ _ (by decide)]) (by rw [u _ _ (by decide), u _ _ (by decide)]) (by rw [u _ k (by omega), u _ k (by omega)])
  have hf : sFears T Lw (upd S 64 g) lots od a k = sFears T Lw (upd S 64 0) lots od a k := sFears_congr (by rw [u _ _ (by decide), u _ _ (by decide)]) (by rw [u _ _ (by decide), u _ _ (by decide)]) (by rw [u _ k (by omega), u _ k (by omega)])
  have h0 : ¬ sGt (upd S 64 0) k := by
    rw [sGt_bt (by omega), upd_at, b_0]; decide
  have hno : ¬ sGt (upd S 64 g) k → sPr T Lw (upd S 64 g) lots od a k = sPr T Lw (upd S 64 0) lots od a k := fun hg => (prow_congr (T := T) (Lw := Lw) (S := upd S 64 0) (S' := upd S 64 g) hd ⟨fun z => absurd z hg, fun z => absurd z h0⟩ (fun z => absurd z h0) (fun _ => hf)).1
  refine ⟨?_, hno⟩
  by_cases hg : sGt (upd S 64 g) k
  · unfold sPr
    by_cases hdn : sDn T Lw (upd S 64 0) k
    · rw [if_pos hdn, if_pos (hd.mpr hdn)]; exact Nat.le_refl _
    · rw [if_neg hdn, if_neg (fun z => hdn (hd.mp z))]
      unfold sCost
      rw [if_neg h0, if_pos hg, hf, ho]
      obtain ⟨m, hm, e1, -⟩ := sOwes_in (T := T) (Lw := Lw) (S := upd S 64 0) (lots := lots) (od := od) (a := a) (k := k)
      obtain ⟨m2, hm2, e2, -⟩ := sFears_in (T := T) (Lw := Lw) (S := upd S 64 0) (lots := lots) (od := od) (a := a) (k := k)
      have h3 := hv.2.1 k hk
      rw [e1, e2, Int32.add_zero]
      by_cases h4 : T 4 k = 1
      · rw [if_pos h4, nI_add, nI_add, nI_add, nI_clamp (by omega), nI_clamp (by omega)]; omega
      · rw [if_neg h4, Int32.add_zero, Int32.add_zero, nI_add, nI_clamp (by omega), nI_clamp (by omega)]; omega
  · rw [hno hg]; exact Nat.le_refl _
theorem open_free {T : sT} {Lw : Nat → sLaw} (hv : vT T Lw) {S : sR} {lots od g : Int32} {a : Nat} (ha : a < T 0 2) (hI : sDs T Lw lots od (upd S 64 0) a (T 5 a) < INF) (hW : ∀ k ∈ sWl T Lw lots od (upd S 64 0) a, ¬ sGt (upd S 64 g) k) : sFree T Lw lots od (upd S 64 g) a := by
  have h5 := (hv.2.2.1 a ha).1
  have h8 := hv.1.1
  have hin := (sWl_in hv hI).2
  obtain ⟨e1, e2⟩ := way_keep hv (pr := sPr T Lw (upd S 64 0) lots od a) (pr' := sPr T Lw (upd S 64 g) lots od a) (goal := T 6 a) (fun k hk => (sPr_OK hv k hk).1) (fun k hk => (gate_dear hv hk).1) 8 (T 5 a) hI (by have := rk_7 (d := sD T (sPr T Lw (upd S 64 0) lots od a) (T 6 a)) (p := T 5 a) (by omega); omega) (fun k hk => (gate_dear hv (hin k hk)).2 (hW k hk))
  refine ⟨?_, ?_⟩
  · unfold sDs; rw [e1]; exact hI
  · unfold sWl sDs; rw [e2]; exact hW
/-- cells that nothing looks at -/
theorem enS_lo {G : jG} {PI : Nat → Prop} {μ μ' : jM} {t r B : Nat} {T : sT} {Lw : Nat → sLaw} {S : sR} {od lots th : Int32} (ho : cOff PI (fun _ => False) μ μ') (hi : ∀ c, PI c → (c < 12 ∨ (52 ≤ c ∧ c < 70) ∨ 112 ≤ c) ∧ c ≠ r) (hS : enS G μ t r T Lw S od lots th B) : enS G μ' t r T Lw S od lots th B := by
  obtain ⟨⟨hW, hr, ⟨hg, hB, hrt⟩, hn, hb⟩, hD, hWs⟩ := hS
  have ht2 := hW.2.2.2.2.2.1.1
  have hr3 := hW.2.2.2.1
  have hv := hW.2.2.2.2.2.1.2.2.2.2.2
  have h7 := hv.1.2.2.1
  have hk : kcI μ' t T Lw := kcI_off ho hW.2.2.2.2.2.2 (fun c hc => by have := hi c hc; omega) (fun c hc => hc.elim)
  have hW' : wdC G μ' t r T Lw := by
    obtain ⟨ht, q0, q5, hr, hgr, hx, hkc⟩ := hW
    exact ⟨ho.tO ht, by rw [ho.1]; exact q0, by rw [ho.1]; exact q5, hr, hgr, txC_off ho hx (fun c h1 h2 h3 => by have := hi c h3; omega) (fun c h1 h2 h3 => h3.elim), hk⟩
  have e12 : μ'.1 12 = μ.1 12 := ho.2.1 12 (fun z => by have := hi _ z; omega)
  have eL : μ'.2.1 12 = μ.2.1 12 := ho.2.2 12 (fun z => z)
  refine ⟨⟨hW', by rw [ho.2.1 r (fun z => (hi _ z).2 rfl)]; exact hr, ⟨hg, hB, hrt⟩, nkS_off (μ := μ) (by rw [e12]) (by rw [eL]) hn, brS_off (μ := μ) (ho.2.1 14 (fun z => by have := hi _ z; omega)) (by rw [eL]) hb⟩, fun i hi2 => by rw [e12, hD i hi2], fun a ha => ?_⟩
  have c1 : ∀ i, i ≤ 4 → μ'.1 (17 + 5 * a + i) = μ.1 (17 + 5 * a + i) := fun i h4 => ho.2.1 _ (fun z => by have := hi _ z; omega)
  exact wyE_mem (c1 0 (by decide)) (c1 1 (by decide)) (c1 2 (by decide)) (c1 3 (by decide)) (hWs a ha)
section StopC
variable {l : Launch} {G : jG}
/-- the WAYS without GATES, as bits -/
def opI (T : sT) (Lw : Nat → sLaw) (od : Int32) (S : sR) (f : Nat → Int32) (n : Nat) : Prop := ∀ a, a < n → (sDs T Lw (nI (T 0 7)) od (upd S 64 0) a (T 5 a) < INF ∧ f a = bitsW (sWl T Lw (nI (T 0 7)) od (upd S 64 0) a) 0) ∨ (¬ sDs T Lw (nI (T 0 7)) od (upd S 64 0) a (T 5 a) < INF ∧ f a = 0)
theorem c_X1_findOpenRoads (hG : gGG G) {μ : jM} (hP : gPP μ) {t B : Nat} {T : sT} {Lw : Nat → sLaw} {S : sR} (hf : fcI G μ t T Lw S B) :
    jC0 l mX1_findOpenRoads 4 G [.ref 57] μ (pV fun μ' => gPP μ' ∧ enS G μ' t 59 T Lw (upd S 64 0) (S 65) (nI (T 0 7)) (thN T) B ∧ fcI G μ' t T Lw S B ∧ cO5 (fun c => c = 62 ∨ pnI t 59 0 c) (lnL t) μ μ' ∧ opI T Lw (S 65) S (μ'.1 62) (T 0 2)) := by
  refine jC0.of' (ls := [.ref 57, .null]) rfl rfl rfl (fun _ _ => Nat.le_of_ble_eq_true rfl) ?_
  have hx := hf.1.2.2.1
  have hv := hx.2.2.2.2.2
  have h7 := hv.1.2.2.1
  have ht2 := hx.1
  obtain ⟨r, hr9, hr⟩ := hf.2.2.1.2.2
  refine b_X1_findOpenRoads_0 hG hP (fc_start hG hP hf) ?_
  rintro μ3 ⟨hP3, hf3, ho3, hr3⟩
  have hr4 : (wI μ3 59 4 0).1 59 = cRow (upd S 64 0) (S 65) (nI (T 0 7)) (thN T) := by
    rw [wI_eq, hr3, cRow_upd (i := 64) (by decide)]; rfl
  have u65 : upd S 64 0 65 = S 65 := upd_ne (by decide)
  refine b_X1_findOpenRoads_4 hG hP3 (fc_enter (μ := wI μ3 59 4 0) hG hP3 (fc_59 hf3 (by decide)) hr4 (rgS_64 hf.2.2.1.1) ⟨⟨r, hr9, by rw [u65]; exact hr⟩, r, hr9, hr⟩) ?_
  rintro μ4 ⟨hS4, ho4⟩
  have hP4 := ho4.gPP (μ := wI μ3 59 4 0) hP3
  have ho34 : cO5 (fun c => c = 62 ∨ pnI t 59 0 c) (lnL t) μ (wI μ3 59 4 0) := (ho3.mono (fun c hc => Or.inr (Or.inr (Or.inr (Or.inl hc)))) (fun c hc => hc.elim)).trans ((cOff_wI (PI := fun c => c = 59) (PL := fun _ => False) rfl).o5.mono (fun c hc => Or.inr (Or.inr (Or.inr (Or.inl hc)))) (fun c hc => hc.elim))
  have ho4' := ho34.trans (ho4.mono (fun c hc => Or.inr hc) (fun c hc => hc))
  have hf4 : fcI G μ4 t T Lw S B := fc_end (fc_59 hf3 (by decide)) hS4 ho4
  refine b_X1_findOpenRoads_25 hG hP4 ?_
  have loop : ∀ i, i ≤ T 0 2 → ∀ μ1, gPP μ1 → enS G μ1 t 59 T Lw (upd S 64 0) (S 65) (nI (T 0 7)) (thN T) B → fcI G μ1 t T Lw S B → cO5 (fun c => c = 62 ∨ pnI t 59 0 c) (lnL t) μ μ1 → opI T Lw (S 65) S (μ1.1 62) i → J l mX1_findOpenRoads (jZ0 4 G (pV fun μ' => gPP μ' ∧ enS G μ' t 59 T Lw (upd S 64 0) (S 65) (nI (T 0 7)) (thN T) B ∧ fcI G μ' t T Lw S B ∧ cO5 (fun c => c = 62 ∨ pnI t 59 0 c) (lnL t) μ μ' ∧ opI T Lw (S 65) S (μ'.1 62) (T 0 2))) G 0 0 27 [.ref 57, .int (nI i)] [] μ1 := by
    refine up_loop (T 0 2) ?_ (fun i hi ih => ?_)
    · intro μ1 hP1 hS1 hf1 ho1 hop
      have hle : μ1.1 t 2 ≤ nI (T 0 2) := by rw [hS1.1.1.2.2.2.2.2.1.2.1.2.2.1]; exact nI_le (Nat.le_refl _) (by omega)
      exact b_X1_findOpenRoads_27 (ψ1 := fun _ _ => True) hG hP1 hS1.1.1.1 hS1.1.1.2.1 (fun _ => ⟨hP1, hS1, hf1, ho1, hop⟩) (fun h => absurd hle h) (fun h => absurd hle h)
    · intro μ1 hP1 hS1 hf1 ho1 hop
      have hgt : ¬ μ1.1 t 2 ≤ nI i := by rw [hS1.1.1.2.2.2.2.2.1.2.1.2.2.1]; exact nI_ge hi (by omega)
      refine b_X1_findOpenRoads_27 hG hP1 hS1.1.1.1 hS1.1.1.2.1 (fun h => absurd h hgt) (fun _ => c_X10_findWay hG hP1 hS1 hi) (fun _ => ?_)
      rintro z μ2 ⟨-, g2, g3, -, g5⟩
      have hP2 := g2.gPP hP1
      have ci : (nI i).toNatClampNeg = i := nI_clamp (by omega)
      refine b_X1_findOpenRoads_49 (y := 17 + 5 * i) hG hP2 (tO_way hG hP2 (by omega)) (vp_in_nI (by omega) (by decide)) (by rw [ci]; exact way_ref hP2 (by omega)) ?_
      rw [nI_inc, ci]
      have oW : cOff (fun c => c = 62) (fun _ => False) μ2 (wI μ2 62 i (μ2.1 (17 + 5 * i) 7)) := cOff_wI rfl
      have ho2 : cO5 (pnI t 59 0) (lnL t) μ1 μ2 := g2.o5.mono (fun c hc => fn_pn (by omega) hc) (fun c hc => Or.inr hc)
      have hf2 : fcI G μ2 t T Lw S B := fc_end hf1 g3 ho2
      refine ih (wI μ2 62 i (μ2.1 (17 + 5 * i) 7)) hP2 ?_ (fc_lo hf2 oW.o5 (fun c hc => by omega)) ((ho1.trans (ho2.mono (fun c hc => Or.inr hc) (fun c hc => hc))).trans (oW.o5.mono (fun c hc => Or.inl hc) (fun c hc => hc.elim))) ?_
      · exact enS_lo oW (fun c hc => by omega) g3
      · intro a ha
        rw [wI_eq]
        by_cases e : a = i
        · subst e
          rw [upd_at]
          rcases g5.2 with ⟨z1, z2, z3, z4⟩ | ⟨z1, z2, z4⟩
          · exact Or.inl ⟨z1, z4⟩
          · exact Or.inr ⟨z1, z4⟩
        · rw [upd_ne e, g2.2.1 62 (by unfold fnI scI; omega)]
          exact hop a (by omega)
  exact loop 0 (by omega) μ4 hP4 hS4 hf4 ho4' (fun a ha => by omega)
theorem bits_free {W : List Nat} {S : sR} {g : Int32} (hW : ∀ k ∈ W, k < 32) : (bitsW W 0 &&& g = 0) ↔ ∀ k ∈ W, ¬ sGt (upd S 64 g) k := by
  have := way_free (W := W) (S := upd S 64 g) (b := bitsW W 0) rfl hW
  rw [upd_at] at this
  exact this
theorem c_X1_leavesNobodyFree (hG : gGG G) {μ : jM} (hP : gPP μ) {t B g : Nat} {T : sT} {Lw : Nat → sLaw} {S : sR} {x0 : Int32} (hS : enS G μ t 59 T Lw (upd S 64 x0) (S 65) (nI (T 0 7)) (thN T) B) (hop : opI T Lw (S 65) S (μ.1 62) (T 0 2)) :
    jC0 l mX1_leavesNobodyFree 4 G [.ref 57, .int (nI g)] μ (pI fun z μ' => ((z = 1 ∧ noF T Lw (S 65) S g) ∨ (z = 0 ∧ ¬ noF T Lw (S 65) S g)) ∧ gPP μ' ∧ (∃ x1, enS G μ' t 59 T Lw (upd S 64 x1) (S 65) (nI (T 0 7)) (thN T) B) ∧ cO5 (pnI t 59 0) (lnL t) μ μ') := by
  refine jC0.of' (ls := [.ref 57, .int (nI g), .null, .null]) rfl rfl rfl (fun _ _ => Nat.le_of_ble_eq_true rfl) ?_
  have hx := hS.1.1.2.2.2.2.2.1
  have hv := hx.2.2.2.2.2
  have h7 := hv.1.2.2.1
  have h12 := hv.1.2.1
  have ht2 := hx.1
  refine b_X1_leavesNobodyFree_0 hG hP hS.1.1.1 hS.1.1.2.1 ?_
  rw [hx.2.1.2.2.1]
  have loop2 : ∀ i, i ≤ T 0 2 → ∀ μ1, gPP μ1 → enS G μ1 t 59 T Lw (upd S 64 (nI g)) (S 65) (nI (T 0 7)) (thN T) B → cO5 (pnI t 59 0) (lnL t) μ μ1 → (∀ a, a < i → ¬ sFree T Lw (nI (T 0 7)) (S 65) (upd S 64 (nI g)) a) → J l mX1_leavesNobodyFree (jZ0 4 G (pI fun z μ' => ((z = 1 ∧ noF T Lw (S 65) S g) ∨ (z = 0 ∧ ¬ noF T Lw (S 65) S g)) ∧ gPP μ' ∧ (∃ x1, enS G μ' t 59 T Lw (upd S 64 x1) (S 65) (nI (T 0 7)) (thN T) B) ∧ cO5 (pnI t 59 0) (lnL t) μ μ')) G 0 0 56 [.ref 57, .int (nI g), .int (nI (T 0 2)), .int (nI i)] [] μ1 := by
    refine up_loop (T 0 2) ?_ (fun i hi ih => ?_)
    · intro μ1 hP1 hS1 ho1 hno
      have hle : nI (T 0 2) ≤ nI (T 0 2) := nI_le (Nat.le_refl _) (by omega)
      exact b_X1_leavesNobodyFree_56 (ψ1 := fun _ _ => True) hG hP1 (fun _ => ⟨Or.inl ⟨rfl, hno⟩, hP1, ⟨_, hS1⟩, ho1⟩) (fun h => absurd hle h) (fun h => absurd hle h)
    · intro μ1 hP1 hS1 ho1 hno
      have hgt : ¬ nI (T 0 2) ≤ nI i := nI_ge hi (by omega)
      refine b_X1_leavesNobodyFree_56 hG hP1 (fun h => absurd h hgt) (fun _ => c_X10_findWay hG hP1 hS1 hi) (fun _ => ?_)
      rintro z μ2 ⟨rfl, g2, g3, -, g5⟩
      have hP2 := g2.gPP hP1
      have ho2 : cO5 (pnI t 59 0) (lnL t) μ μ2 := ho1.trans (g2.o5.mono (fun c hc => fn_pn (by omega) hc) (fun c hc => Or.inr hc))
      have ci : (nI i).toNatClampNeg = i := nI_clamp (by omega)
      have hnext : ¬ sFree T Lw (nI (T 0 7)) (S 65) (upd S 64 (nI g)) i → J l mX1_leavesNobodyFree (jZ0 4 G (pI fun z μ' => ((z = 1 ∧ noF T Lw (S 65) S g) ∨ (z = 0 ∧ ¬ noF T Lw (S 65) S g)) ∧ gPP μ' ∧ (∃ x1, enS G μ' t 59 T Lw (upd S 64 x1) (S 65) (nI (T 0 7)) (thN T) B) ∧ cO5 (pnI t 59 0) (lnL t) μ μ')) G 0 0 56 [.ref 57, .int (nI g), .int (nI (T 0 2)), .int (nI (i + 1))] [] μ2 := fun hnf => ih μ2 hP2 g3 ho2 (fun a ha => by
        by_cases e : a = i
        · rw [e]; exact hnf
        · exact hno a (by omega))
      refine b_X1_leavesNobodyFree_69 (y := 17 + 5 * i) hG hP2 (tO_way hG hP2 (by omega)) (fun h => ?_) (fun _ => vp_in_nI (by omega) (by decide)) (fun _ => by rw [ci]; exact way_ref hP2 (by omega)) (fun h1 h2 => ?_) (fun h1 h2 => ?_)
      · rw [nI_inc]
        exact hnext (fun z => by rw [if_pos z.1] at h; exact absurd h (by decide))
      · have hI : sDs T Lw (nI (T 0 7)) (S 65) (upd S 64 (nI g)) i (T 5 i) < INF := Classical.byContradiction (fun z => by rw [if_neg z] at h1; exact h1 rfl)
        obtain ⟨-, -, -, w7⟩ := wyC_W g5 hI
        rw [nI_inc]
        refine hnext (fun z => h2 ?_)
        rw [w7]
        exact (bits_free (fun k hk => by have := (sWl_in hv hI).2 k hk; omega)).mpr z.2
      · have hI : sDs T Lw (nI (T 0 7)) (S 65) (upd S 64 (nI g)) i (T 5 i) < INF := Classical.byContradiction (fun z => by rw [if_neg z] at h1; exact h1 rfl)
        obtain ⟨-, -, -, w7⟩ := wyC_W g5 hI
        rw [w7] at h2
        have hfr : sFree T Lw (nI (T 0 7)) (S 65) (upd S 64 (nI g)) i := ⟨hI, (bits_free (fun k hk => by have := (sWl_in hv hI).2 k hk; omega)).mp h2⟩
        exact ⟨Or.inr ⟨rfl, fun z => z i hi hfr⟩, hP2, ⟨_, g3⟩, ho2⟩
  have loop1 : ∀ i, i ≤ T 0 2 → J l mX1_leavesNobodyFree (jZ0 4 G (pI fun z μ' => ((z = 1 ∧ noF T Lw (S 65) S g) ∨ (z = 0 ∧ ¬ noF T Lw (S 65) S g)) ∧ gPP μ' ∧ (∃ x1, enS G μ' t 59 T Lw (upd S 64 x1) (S 65) (nI (T 0 7)) (thN T) B) ∧ cO5 (pnI t 59 0) (lnL t) μ μ')) G 0 0 13 [.ref 57, .int (nI g), .int (nI (T 0 2)), .int (nI i)] [] μ := by
    refine up_loop (T 0 2) ?_ (fun i hi ih => ?_)
    · have hle : nI (T 0 2) ≤ nI (T 0 2) := nI_le (Nat.le_refl _) (by omega)
      refine b_X1_leavesNobodyFree_13 hG hP (fun _ => c_X10_changeGates hG hP hS (nI g)) (fun _ => ?_) (fun h => absurd hle h) (fun h => absurd hle h) (fun h => absurd hle h) (fun h => absurd hle h)
      rintro μ1 ⟨hS1, ho1⟩
      rw [upd_upd] at hS1
      have hP1 := ho1.gPP hP
      refine b_X1_leavesNobodyFree_54 hG hP1 ?_
      refine loop2 0 (Nat.zero_le _) μ1 hP1 hS1 (ho1.o5.mono (fun c hc => ?_) (fun c hc => hc.elim)) (fun a ha => by omega)
      rcases hc with z | ⟨b, z1, z2⟩
      · exact Or.inr (Or.inr (Or.inl z))
      · exact Or.inr (Or.inr (Or.inr (Or.inr (by omega))))
    · have hgt : ¬ nI (T 0 2) ≤ nI i := nI_ge hi (by omega)
      have ci : (nI i).toNatClampNeg = i := nI_clamp (by omega)
      refine b_X1_leavesNobodyFree_13 (ψ0 := fun _ => True) hG hP (fun h => absurd h hgt) (fun h => absurd h hgt) (fun _ => vp_in_nI (by omega) (by decide)) (fun _ _ => by rw [nI_inc]; exact ih) (fun _ _ _ => by rw [nI_inc]; exact ih) (fun _ h1 h2 => ?_)
      rw [ci] at h1 h2
      rcases hop i hi with ⟨hI, he⟩ | ⟨-, he⟩
      · rw [he] at h2
        have := open_free hv (S := S) (g := nI g) hi hI ((bits_free (fun k hk => by have := (sWl_in hv hI).2 k hk; omega)).mp h2)
        exact ⟨Or.inr ⟨rfl, fun z => z i hi this⟩, hP, ⟨_, hS⟩, cO5.refl⟩
      · exact absurd he h1
  exact loop1 0 (Nat.zero_le _)
theorem c_X1_fewestGates (hG : gGG G) {μ : jM} (hP : gPP μ) {t B : Nat} {T : sT} {Lw : Nat → sLaw} {S : sR} {x0 : Int32} (hS : enS G μ t 59 T Lw (upd S 64 x0) (S 65) (nI (T 0 7)) (thN T) B) (hop : opI T Lw (S 65) S (μ.1 62) (T 0 2)) :
    jC0 l mX1_fewestGates 5 G [.ref 57] μ (pI fun z μ' => (∃ x, stP T Lw (S 65) S x ∧ z = nI x) ∧ gPP μ' ∧ (∃ x1, enS G μ' t 59 T Lw (upd S 64 x1) (S 65) (nI (T 0 7)) (thN T) B) ∧ cO5 (pnI t 59 0) (lnL t) μ μ') := by
  refine jC0.of' (ls := [.ref 57, .null, .null, .null]) rfl rfl rfl (fun _ _ => Nat.le_of_ble_eq_true rfl) ?_
  have hx := hS.1.1.2.2.2.2.2.1
  have hv := hx.2.2.2.2.2
  have h12 := hv.1.2.1
  have ht2 := hx.1
  have hpw := pow_le _ h12
  refine b_X1_fewestGates_0 hG hP hS.1.1.1 hS.1.1.2.1 ?_
  rw [hx.2.1.2.1, pow_sh _ h12]
  have e62 : ∀ μ1, cO5 (pnI t 59 0) (lnL t) μ μ1 → μ1.1 62 = μ.1 62 := fun μ1 ho => ho.2.1 62 (by unfold pnI scI; omega)
  have outer : ∀ c, c ≤ T 0 1 → ∀ μ1, gPP μ1 → (∃ x1, enS G μ1 t 59 T Lw (upd S 64 x1) (S 65) (nI (T 0 7)) (thN T) B) → cO5 (pnI t 59 0) (lnL t) μ μ1 → (∀ y, y < 2 ^ T 0 1 → noF T Lw (S 65) S y → c ≤ pcT y 12) → J l mX1_fewestGates (jZ0 5 G (pI fun z μ' => (∃ x, stP T Lw (S 65) S x ∧ z = nI x) ∧ gPP μ' ∧ (∃ x1, enS G μ' t 59 T Lw (upd S 64 x1) (S 65) (nI (T 0 7)) (thN T) B) ∧ cO5 (pnI t 59 0) (lnL t) μ μ')) G 0 0 15 [.ref 57, .int (nI (2 ^ T 0 1)), .int (nI c), .null] [] μ1 := by
    refine up_loop (T 0 1) ?_ (fun c hc ih => ?_)
    · intro μ1 hP1 ⟨x1, hS1⟩ ho1 hno
      have f1 := hS1.1.1.2.2.2.2.2.1.2.1.2.1
      have hle : μ1.1 t 1 ≤ nI (T 0 1) := by rw [f1]; exact nI_le (Nat.le_refl _) (by omega)
      refine b_X1_fewestGates_15 hG hP1 hS1.1.1.1 hS1.1.1.2.1 (fun _ => ⟨⟨2 ^ T 0 1 - 1, ⟨?_, noF_full hv, fun y hy hn => ?_⟩, ?_⟩, hP1, ⟨x1, hS1⟩, ho1⟩) (fun h => absurd hle h)
      · have := Nat.two_pow_pos (T 0 1); omega
      · have := full_is h12 hy (hno y hy hn)
        exact Or.inr ⟨by rw [this], by omega⟩
      · have := Nat.two_pow_pos (T 0 1)
        obtain ⟨m, hm⟩ : ∃ m, 2 ^ T 0 1 = m + 1 := ⟨2 ^ T 0 1 - 1, by omega⟩
        rw [hm]
        show nI (m + 1) - 1 = nI (m + 1 - 1)
        rw [Int32.sub_eq_add_neg, show (-(1 : Int32)) = -1 from rfl, nI_dec]; rfl
    · intro μ1 hP1 hS1 ho1 hno
      have f1 : μ1.1 t 1 = nI (T 0 1) := by obtain ⟨x1, hS1⟩ := hS1; exact hS1.1.1.2.2.2.2.2.1.2.1.2.1
      have hgt : ¬ μ1.1 t 1 ≤ nI c := by rw [f1]; exact nI_ge hc (by omega)
      have htt : tO gTold pTold G μ1 t ∧ μ1.2.2 12 0 = some t := by obtain ⟨x1, hS1⟩ := hS1; exact ⟨hS1.1.1.1, hS1.1.1.2.1⟩
      refine b_X1_fewestGates_15 hG hP1 htt.1 htt.2 (fun h => absurd h hgt) (fun _ => ?_)
      have inner : ∀ i, i ≤ 2 ^ T 0 1 → ∀ μ1, gPP μ1 → (∃ x1, enS G μ1 t 59 T Lw (upd S 64 x1) (S 65) (nI (T 0 7)) (thN T) B) → cO5 (pnI t 59 0) (lnL t) μ μ1 → (∀ y, y < i → noF T Lw (S 65) S y → c < pcT y 12) → J l mX1_fewestGates (jZ0 5 G (pI fun z μ' => (∃ x, stP T Lw (S 65) S x ∧ z = nI x) ∧ gPP μ' ∧ (∃ x1, enS G μ' t 59 T Lw (upd S 64 x1) (S 65) (nI (T 0 7)) (thN T) B) ∧ cO5 (pnI t 59 0) (lnL t) μ μ')) G 0 0 31 [.ref 57, .int (nI (2 ^ T 0 1)), .int (nI c), .int (nI i)] [] μ1 := by
        refine up_loop (2 ^ T 0 1) ?_ (fun i hi ihi => ?_)
        · intro μ2 hP2 hS2 ho2 hno2
          have hle : nI (2 ^ T 0 1) ≤ nI (2 ^ T 0 1) := nI_le (Nat.le_refl _) (by omega)
          refine b_X1_fewestGates_31 (ψ1 := fun _ _ => True) hG hP2 (fun _ => ?_) (fun h => absurd hle h) (fun h => absurd hle h)
          rw [nI_inc]
          exact ih μ2 hP2 hS2 ho2 (fun y hy hn => hno2 y hy hn)
        · intro μ2 hP2 hS2 ho2 hno2
          have hgt2 : ¬ nI (2 ^ T 0 1) ≤ nI i := nI_ge hi (by omega)
          refine b_X1_fewestGates_31 hG hP2 (fun h => absurd h hgt2) (fun _ => c_JI_bitCount hG hP2 i (by omega)) (fun _ => ?_)
          rintro z μ3 ⟨rfl, rfl⟩
          rw [sBits_nI 12 (by decide)]
          have hp12 := pcT_le (y := i) 12
          have hnI : (nI (pcT i 12) = nI c) ↔ pcT i 12 = c := nI_eq (by omega) (by omega)
          obtain ⟨x2, hS2'⟩ := id hS2
          refine b_X1_fewestGates_40 hG hP2 (fun h => ?_) (fun h => c_X1_leavesNobodyFree hG hP2 hS2' (by rw [e62 μ3 ho2]; exact hop)) (fun h => ?_)
          · rw [nI_inc]
            refine ihi μ3 hP2 hS2 ho2 (fun y hy hn => ?_)
            by_cases e : y = i
            · subst e
              have := hno y (by omega) hn
              have h' : pcT y 12 ≠ c := fun z => h (hnI.mpr z)
              omega
            · exact hno2 y (by omega) hn
          · rintro z μ4 ⟨hz, hP4, hS4, ho4⟩
            have hpc := hnI.mp h
            have ho4' := ho2.trans ho4
            rcases hz with ⟨rfl, hn⟩ | ⟨rfl, hn⟩
            · refine b_X1_fewestGates_49 hG hP4 (fun h => absurd h (by decide)) (fun _ => ⟨⟨i, ⟨hi, hn, fun y hy hy2 => ?_⟩, rfl⟩, hP4, hS4, ho4'⟩)
              have h1 := hno y hy hy2
              by_cases e : y < i
              · have := hno2 y e hy2; omega
              · omega
            · refine b_X1_fewestGates_49 hG hP4 (fun _ => ?_) (fun h => absurd rfl h)
              rw [nI_inc]
              refine ihi μ4 hP4 hS4 ho4' (fun y hy hy2 => ?_)
              by_cases e : y = i
              · rw [e] at hy2; exact absurd hy2 hn
              · exact hno2 y (by omega) hy2
      exact inner 0 (Nat.zero_le _) μ1 hP1 hS1 ho1 (fun y hy => by omega)
  exact outer 0 (Nat.zero_le _) μ hP ⟨x0, hS⟩ cO5.refl (fun y hy hn => Nat.zero_le _)
theorem stP_od {T : sT} {Lw : Nat → sLaw} {S : sR} {r x : Nat} (hr : r ≤ 9) (h : S 65 = nI r) (hs : stP T Lw (S 65) S x) : stP T Lw (-1) S x :=
  ⟨hs.1, (noF_od hr h x).mp hs.2.1, fun y hy hn => hs.2.2 y hy ((noF_od hr h y).mpr hn)⟩
theorem c_X1_seekStop (hG : gGG G) {μ : jM} (hP : gPP μ) {t B : Nat} {T : sT} {Lw : Nat → sLaw} {S : sR} (hf : fcI G μ t T Lw S B) (han : μ.1 57 2 = 600 → (μ.1 57 0, μ.1 57 1) = stV T Lw S) :
    jC0 l mX1_seekStop 6 G [.ref 57] μ (pV (srI G μ t T Lw S B 600 (stV T Lw S))) := by
  refine jC0.of' (ls := [.ref 57]) rfl rfl rfl (fun _ _ => Nat.le_of_ble_eq_true rfl) ?_
  have hx := hf.1.2.2.1
  have hv := hx.2.2.2.2.2
  have h12 := hv.1.2.1
  have ht2 := hx.1
  have hpw := pow_le _ h12
  obtain ⟨r, hr9, hr⟩ := hf.2.2.1.2.2
  refine b_X1_seekStop_0 hG hP (sr_begin hG hP hf _) ?_
  rintro z μ1 (⟨rfl, hq, rfl⟩ | ⟨rfl, hs1⟩)
  · refine b_X1_seekStop_7 (ψ0 := fun _ => True) hG hP (fun h => absurd h (by decide)) (fun h => absurd h (by decide)) (fun _ => ?_)
    have := han hq.symm
    exact ⟨hP, hf, cO5.refl, hq.symm, by rw [← this], by rw [← this]⟩
  · obtain ⟨hP1, hf1, ho1, k2, k0, k1⟩ := hs1
    refine b_X1_seekStop_7 hG hP1 (fun _ => c_X1_findOpenRoads hG hP1 hf1) (fun _ => ?_) (fun h => absurd rfl h)
    rintro μ2 ⟨hP2, hS2, hf2, ho2, hop⟩
    refine b_X1_seekStop_15 hG hP2 (c_X1_fewestGates hG hP2 hS2 hop) ?_
    rintro z μ3 ⟨⟨x, hst, rfl⟩, hP3, ⟨x1, hS3⟩, ho3⟩
    have hx1 : x < 4096 := by have := hst.1; omega
    have e57 : μ3.1 57 = μ1.1 57 := by rw [fo_57 ht2 ho3, ho2.2.1 57 (by unfold pnI scI; omega)]
    have hP4 : gPP (wI μ3 57 1 (nI x)) := hP3
    refine b_X1_seekStop_20 hG hP3 (c_JI_bitCount hG hP4 x hx1) ?_
    rintro z μ4 ⟨rfl, rfl⟩
    have hsx := stX_eq (stP_od hr9 hr hst)
    have oB : cOff (fun c => c = 57) (fun _ => False) μ3 (wI (wI μ3 57 1 (nI x)) 57 0 (sBits (nI x) 12)) := cOff.trans (μ1 := wI μ3 57 1 (nI x)) (cOff_wI (PI := fun c => c = 57) rfl) (cOff_wI (PI := fun c => c = 57) rfl)
    refine b_X1_seekStop_31 (μ := wI μ3 57 1 (nI x)) hG hP4 ⟨hP3, fc_lo (fc_end hf2 hS3 ho3) oB.o5 (fun c hc => by omega), ?_, ?_, ?_, ?_⟩
    · refine ((ho1.trans (ho2.mono (fun c hc => ?_) (fun c hc => hc))).trans (ho3.mono (fun c hc => pn_fo hc) (fun c hc => hc))).trans (oB.o5.mono (fun c hc => Or.inl hc) (fun c hc => hc.elim))
      rcases hc with z | z
      · exact Or.inr (Or.inr (Or.inr (Or.inl z)))
      · exact pn_fo z
    · rw [wI_off' (by decide), wI_off' (by decide), e57]; exact k2
    · rw [wI_at]; unfold stV; rw [hsx]
    · rw [wI_off' (by decide), wI_at]; unfold stV; rw [hsx]
end StopC
