/-! THE CLASS: the first ROAD that breaks; seeds -/
noncomputable def yrV (T : sT) (Lw : Nat → sLaw) (S : sR) (n : Nat) : Nat → Int32 := sm (fun i => sNn T Lw (nI (T 0 7) + nI i) (-1) 127 n S 66 - S 66)
/-- whether another SEED could change what happens -/
def hangs (T : sT) (Lw : Nat → sLaw) : Prop := (uL (Lw 0) 3 = true ∨ uL (Lw 1) 3 = true) ∧ 0 < T 0 4 ∧ T 0 4 < 100
theorem fog_mask : ∀ b3 b4 b6 b8 : Bool, (mkB b3 b4 b6 b8 &&& 268435456 = 0) ↔ b3 = false := by decide +kernel
theorem v9_3 (x0 x1 x2 x3 x4 x5 x6 x7 x8 y3 : Int32) (i : Nat) (h3 : i ≠ 3) : v9 x0 x1 x2 x3 x4 x5 x6 x7 x8 i = v9 x0 x1 x2 y3 x4 x5 x6 x7 x8 i := by
  unfold v9
  split <;> first | rfl | (exfalso; omega)
theorem law_fog {T : sT} {L : sLaw} {S : sR} {lots lots' od most : Int32} {a k : Nat} (h : uL L 3 = false ∨ sFg T S lots = sFg T S lots') : lawV (vrA T S lots od a k) L most = lawV (vrA T S lots' od a k) L most := by
  rcases h with h | h
  · unfold lawV
    rw [lE_uses L (vr' := vrA T S lots' od a k) (fun i hi => ?_)]
    exact v9_3 _ _ _ _ _ _ _ _ _ _ i (fun z => by rw [z, h] at hi; cases hi)
  · unfold vrA; rw [h]
theorem fg_same {T : sT} {Lw : Nat → sLaw} (hv : vT T Lw) {S : sR} {n : Nat} (hn : S 67 = nI n) (h : ¬ (0 < T 0 4 ∧ T 0 4 < 100)) (lots lots' : Int32) : sFg T S lots = sFg T S lots' := by
  have h4 := hv.1.2.2.2.2.1
  rw [sFg_lt hv hn, sFg_lt hv hn]
  by_cases h0 : T 0 4 = 0
  · have : nI (T 0 4) ≤ 0 := by rw [h0]; decide
    rw [if_pos this, if_pos this]
  · have h1 : T 0 4 = 100 := by omega
    have h2 : ¬ nI (T 0 4) ≤ 0 := by rw [h1]; decide
    obtain ⟨m, hm, e⟩ := sLt_in lots (nI n)
    obtain ⟨m', hm', e'⟩ := sLt_in lots' (nI n)
    rw [if_neg h2, if_neg h2, e, e', h1, if_neg (nI_ge hm (by decide)), if_neg (nI_ge hm' (by decide))]
theorem seed_pr {T : sT} {Lw : Nat → sLaw} (hv : vT T Lw) (hh : ¬ hangs T Lw) {S : sR} {n : Nat} (hn : S 67 = nI n) (lots lots' od : Int32) (a : Nat) : sPr T Lw S lots od a = sPr T Lw S lots' od a ∧ sOw T Lw S lots od a = sOw T Lw S lots' od a := by
  have key : ∀ q, q < 2 → uL (Lw q) 3 = false ∨ sFg T S lots = sFg T S lots' := by
    intro q hq
    by_cases h : 0 < T 0 4 ∧ T 0 4 < 100
    · left
      cases hb : uL (Lw q) 3
      · rfl
      · exfalso
        refine hh ⟨?_, h⟩
        have : q = 0 ∨ q = 1 := by omega
        rcases this with rfl | rfl
        · exact Or.inl hb
        · exact Or.inr hb
    · exact Or.inr (fg_same hv hn h lots lots')
  have h1 : ∀ k, sOwes T Lw S lots od a k = sOwes T Lw S lots' od a k := fun k => law_fog (key 0 (by decide))
  have h2 : ∀ k, sFears T Lw S lots od a k = sFears T Lw S lots' od a k := fun k => law_fog (key 1 (by decide))
  constructor
  · funext k; unfold sPr sCost; rw [h1 k, h2 k]
  · funext k; unfold sOw; rw [h1 k]
theorem seed_NA {T : sT} {Lw : Nat → sLaw} (hv : vT T Lw) (hh : ¬ hangs T Lw) {S : sR} {n : Nat} (hn : S 67 = nI n) (lots lots' od th : Int32) (a : Nat) : sNA T Lw lots od th a S = sNA T Lw lots' od th a S := by
  obtain ⟨h1, h2⟩ := seed_pr hv hh hn lots lots' od a
  unfold sNA sWl sDs
  rw [h1, h2]
theorem seed_Ns {T : sT} {Lw : Nat → sLaw} (hv : vT T Lw) (hh : ¬ hangs T Lw) {S : sR} {n : Nat} (hn : S 67 = nI n) (lots lots' od th : Int32) : ∀ j, j ≤ T 0 2 → sNs T Lw lots od th j S = sNs T Lw lots' od th j S := by
  intro j
  induction j with
  | zero => intro _; rfl
  | succ j ih =>
    intro hj
    unfold sNs
    rw [← ih (by omega)]
    exact seed_NA hv hh (n := n) (by rw [sNs_keep hv (by omega) j (by omega)]; exact hn) _ _ _ _ _
theorem seed_Nn {T : sT} {Lw : Nat → sLaw} (hv : vT T Lw) (hh : ¬ hangs T Lw) {S : sR} {w : Nat} (hn : S 67 = nI w) (lots lots' od th : Int32) : ∀ n, sNn T Lw lots od th n S = sNn T Lw lots' od th n S := by
  intro n
  induction n with
  | zero => rfl
  | succ n ih =>
    unfold sNn
    rw [← ih]
    unfold sNt
    rw [seed_Ns hv hh ((sNn_grow hv n).2.2.2.2.2.1 w hn) lots lots' od th (T 0 2) (Nat.le_refl _)]
theorem sm_const {x : Int32} : ∀ n, sm (fun _ => x) n = x * nI n := by
  intro n
  induction n with
  | zero => show (0 : Int32) = x * 0; rw [Int32.mul_zero]
  | succ n ih => unfold sm; rw [ih, nI_succ, Int32.mul_add, Int32.mul_one]
section ForeD
variable {l : Launch} {G : jG}
theorem c_X1_firstBit (hG : gGG G) {μ : jM} (hP : gPP μ) (x : Int32) : jC0 l mX1_firstBit 0 G [.int x] μ (pI fun z μ' => μ' = μ ∧ z = if fkF (bt x) 12 < 12 then nI (fkF (bt x) 12) else -1) := by
  refine jC0.of' (ls := [.int x, .null]) rfl rfl rfl (fun _ _ => Nat.le_of_ble_eq_true rfl) ?_
  refine b_X1_firstBit_0 hG hP ?_
  have loop : ∀ i, i ≤ 12 → (∀ j, j < i → ¬ bt x j = true) → J l mX1_firstBit (jZ0 0 G (pI fun z μ' => μ' = μ ∧ z = if fkF (bt x) 12 < 12 then nI (fkF (bt x) 12) else -1)) G 0 0 2 [.int x, .int (nI i)] [] μ := by
    refine up_loop 12 ?_ (fun i hi ih => ?_)
    · intro h
      refine b_X1_firstBit_2 hG hP (fun _ => ⟨rfl, ?_⟩) (fun h => absurd (by decide) h) (fun h => absurd (by decide) h)
      rw [fkF_all 12 h, if_neg (by omega)]
    · intro h
      refine b_X1_firstBit_2 hG hP (fun z => absurd z (nI_ge (b := 12) hi (by decide))) (fun _ z => ?_) (fun _ z => ⟨rfl, ?_⟩)
      · rw [nI_inc]
        refine ih (fun j hj => ?_)
        by_cases e : j = i
        · rw [e, (sh1_0 (by omega) x).mp z]; decide
        · exact h j (by omega)
      · rw [sh1_0 (by omega)] at z
        have : bt x i = true := by cases hb : bt x i; (exact absurd hb z); rfl
        rw [fkF_of 12 i hi this h, if_pos hi]
  exact loop 0 (by omega) (fun j hj => by omega)
theorem c_X1_seekFirstBroken (hG : gGG G) {μ : jM} (hP : gPP μ) {t B : Nat} {T : sT} {Lw : Nat → sLaw} {S : sR} (hf : fcI G μ t T Lw S B) (han : μ.1 57 2 = 500 → (μ.1 57 0, μ.1 57 1) = fstV T Lw S) :
    jC0 l mX1_seekFirstBroken 5 G [.ref 57] μ (pV (srI G μ t T Lw S B 500 (fstV T Lw S))) := by
  refine jC0.of' (ls := [.ref 57, .null, .null, .null]) rfl rfl rfl (fun _ _ => Nat.le_of_ble_eq_true rfl) ?_
  have hx := hf.1.2.2.1
  have hv := hx.2.2.2.2.2
  have h12 := hv.1.2.1
  have ht2 := hx.1
  obtain ⟨r, hr9, hr⟩ := hf.2.2.1.2.2
  have hBB := hf.2.2.1.2.1
  refine b_X1_seekFirstBroken_0 hG hP (sr_begin hG hP hf _) ?_
  rintro z μ1 (⟨rfl, hq, rfl⟩ | ⟨rfl, hs1⟩)
  · refine b_X1_seekFirstBroken_7 (ψ0 := fun _ => True) hG hP (fun h => absurd h (by decide)) (fun h => absurd h (by decide)) (fun _ => ?_)
    have := han hq.symm
    exact ⟨hP, hf, cO5.refl, hq.symm, by rw [← this], by rw [← this]⟩
  · obtain ⟨hP1, hf1, ho1, k2, k0, k1⟩ := hs1
    have oA : cOff (fun c => c = 57) (fun _ => False) μ1 (wI (wI μ1 57 0 (-2)) 57 1 (-2)) := cOff.trans (μ1 := wI μ1 57 0 (-2)) (cOff_wI (PI := fun c => c = 57) rfl) (cOff_wI (PI := fun c => c = 57) rfl)
    have hfA : fcI G (wI (wI μ1 57 0 (-2)) 57 1 (-2)) t T Lw S B := fc_lo hf1 oA.o5 (fun c hc => by omega)
    refine b_X1_seekFirstBroken_7 hG hP1 (fun _ => fc_start (μ := wI (wI μ1 57 0 (-2)) 57 1 (-2)) hG hP1 hfA) (fun _ => ?_) (fun h => absurd rfl h)
    rintro μ3 ⟨hP3, hf3, ho3, hr3⟩
    refine b_X1_seekFirstBroken_27 hG hP3 (fc_enter hG hP3 hf3 hr3 hf.2.2.1.1 ⟨⟨r, hr9, hr⟩, r, hr9, hr⟩) ?_
    rintro μ4 ⟨hS4, ho4⟩
    have hP4 := ho4.gPP hP3
    have ho4' : cO5 (foI t) (lnL t) μ μ4 := ((ho1.trans (oA.o5.mono (fun c hc => Or.inl hc) (fun c hc => hc.elim))).trans (ho3.mono (fun c hc => pn_fo (n := 0) (Or.inr (Or.inr (Or.inl hc)))) (fun c hc => hc.elim))).trans (ho4.mono (fun c hc => pn_fo hc) (fun c hc => hc))
    have e57 : μ4.1 57 2 = 500 ∧ μ4.1 57 0 = -2 ∧ μ4.1 57 1 = -2 := by
      rw [fo_57 ht2 ho4, ho3.2.1 57 (by decide)]
      refine ⟨?_, ?_, ?_⟩
      · rw [wI_off' (by decide), wI_off' (by decide)]; exact k2
      · rw [wI_off' (by decide), wI_at]
      · rw [wI_at]
    refine b_X1_seekFirstBroken_38 hG hP4 ?_
    obtain ⟨b0, hb0⟩ : ∃ b0, b0 = μ4.1 12 4 := ⟨_, rfl⟩
    rw [← hb0]
    have d0 : ∀ i, i < 32 → (bt b0 i = true ↔ (i < T 0 1 ∧ sDn T Lw S i)) := by rw [hb0]; exact hS4.2.1
    have loop : ∀ i, i ≤ 200 → ∀ μ1, gPP μ1 → enS G μ1 t 59 T Lw (sNn T Lw (nI (T 0 7)) (S 65) (thN T) i S) (S 65) (nI (T 0 7)) (thN T) (B + i) → cO5 (pnI t 59 0) (lnL t) μ4 μ1 → (∀ j, j < i → ¬ fstN T Lw S j = true) → J l mX1_seekFirstBroken (jZ0 5 G (pV (srI G μ t T Lw S B 500 (fstV T Lw S)))) G 0 0 50 [.ref 57, .int (b0 ^^^ (-1)), .int (nI (i + 1)), .null] [] μ1 := by
      refine up_loop 200 ?_ (fun i hi ih => ?_)
      · intro μ5 hP5 hS5 ho5 hno
        have ho5' : cO5 (foI t) (lnL t) μ μ5 := ho4'.trans (ho5.mono (fun c hc => pn_fo hc) (fun c hc => hc))
        have hf5 : fcI G μ5 t T Lw S B := fc_end (fc_end hf3 hS4 ho4) hS5 ho5
        refine b_X1_seekFirstBroken_50 (ψ1 := fun _ => True) hG hP5 (fun _ => ?_) (fun h => absurd (by decide) h) (fun h => absurd (by decide) h)
        have hfv : fstV T Lw S = (-2, -2) := by unfold fstV; rw [fkF_all 200 hno, if_neg (by omega)]
        rw [hfv]
        refine ⟨hP5, hf5, ho5', ?_, ?_, ?_⟩
        · rw [fo_57 ht2 ho5]; exact e57.1
        · rw [fo_57 ht2 ho5]; exact e57.2.1
        · rw [fo_57 ht2 ho5]; exact e57.2.2
      · intro μ5 hP5 hS5 ho5 hno
        have hni : ¬ (200 : Int32) < nI (i + 1) := nI_nlt (a := 200) (by omega) (by decide)
        refine b_X1_seekFirstBroken_50 hG hP5 (fun h => absurd h hni) (fun _ => c_X10_passNight hG hP5 hS5 (by omega)) (fun _ => ?_)
        rintro μ6 ⟨hS6, ho6, -, -⟩
        have hP6 := ho6.gPP hP5
        have ho6' : cO5 (pnI t 59 0) (lnL t) μ4 μ6 := ho5.trans (ho6.o5.mono (fun c hc => hc) (fun c hc => hc))
        have hS6' : enS G μ6 t 59 T Lw (sNn T Lw (nI (T 0 7)) (S 65) (thN T) (i + 1) S) (S 65) (nI (T 0 7)) (thN T) (B + (i + 1)) := hS6
        have hbit : ∀ k, k < 32 → (bt ((μ6.1 12 4) &&& (b0 ^^^ (-1))) k = true ↔ (k < T 0 1 ∧ nwP T Lw S (i + 1) k = true)) := by
          intro k hk
          have hd := hS6'.2.1 k hk
          rw [nn_c hv hr9 hr] at hd
          have h0 := d0 k hk
          rw [b_and, b_xor, b_m1 k hk]
          unfold nwP nnS
          rw [decide_eq_true_iff]
          cases x1 : bt (μ6.1 12 4) k <;> cases x2 : bt b0 k <;> rw [x1] at hd <;> rw [x2] at h0
          · exact ⟨fun z => (by cases z), fun z => absurd (hd.mpr ⟨z.1, z.2.1⟩) (by decide)⟩
          · exact ⟨fun z => (by cases z), fun z => absurd (hd.mpr ⟨z.1, z.2.1⟩) (by decide)⟩
          · have := hd.mp rfl
            exact ⟨fun _ => ⟨this.1, this.2, fun z => absurd (h0.mpr ⟨this.1, z⟩) (by decide)⟩, fun _ => rfl⟩
          · exact ⟨fun z => (by cases z), fun z => absurd (h0.mp rfl).2 z.2.2⟩
        have hfn : fstN T Lw S i = true ↔ ∃ k, k < T 0 1 ∧ nwP T Lw S (i + 1) k = true := by
          unfold fstN
          rw [decide_eq_true_iff]
          constructor
          · intro h; exact ⟨_, h, (fkF_hit _ h).1⟩
          · intro h
            obtain ⟨k, z1, z2, z3⟩ := first_ex _ h
            rw [fkF_of _ k z1 z2 z3]; exact z1
        refine b_X1_seekFirstBroken_64 hG hP6 (fun h => ?_) (fun _ => c_X1_firstBit hG hP6 _) (fun h => ?_)
        · rw [nI_inc]
          refine ih μ6 hP6 hS6' ho6' (fun j hj => ?_)
          by_cases e : j = i
          · rw [e, hfn]
            rintro ⟨k, z1, z2⟩
            have := (hbit k (by omega)).mpr ⟨z1, z2⟩
            rw [h, b_0] at this; cases this
          · exact hno j (by omega)
        · intro z μ7 hz7
          obtain ⟨e7, ez⟩ := hz7
          subst e7
          have hex : ∃ k, k < T 0 1 ∧ nwP T Lw S (i + 1) k = true := by
            refine Classical.byContradiction (fun z => h (b_0x.mpr (fun k hk => ?_)))
            cases hb : bt ((μ7.1 12 4) &&& (b0 ^^^ (-1))) k
            · rfl
            · exact absurd ⟨k, (hbit k hk).mp hb⟩ z
          obtain ⟨k, z1, z2, z3⟩ := first_ex _ hex
          have hfk : fkF (bt ((μ7.1 12 4) &&& (b0 ^^^ (-1)))) 12 = k := fkF_of 12 k (by omega) ((hbit k (by omega)).mpr ⟨z1, z2⟩) (fun j hj hz => z3 j hj ((hbit j (by omega)).mp hz).2)
          rw [hfk, if_pos (show k < 12 by omega)] at ez
          rw [ez]
          have hfv : fstV T Lw S = (nI (i + 1), nI k) := by
            have e1 : fkF (fstN T Lw S) 200 = i := fkF_of 200 i hi (hfn.mpr hex) hno
            have e2 : fkF (nwP T Lw S (i + 1)) (T 0 1) = k := fkF_of _ k z1 z2 z3
            unfold fstV; rw [e1, if_pos hi, e2]
          rw [hfv]
          have hf7 : fcI G μ7 t T Lw S B := fc_end (fc_end hf3 hS4 ho4) hS6' ho6'
          have oB : cOff (fun c => c = 57) (fun _ => False) μ7 (wI (wI μ7 57 1 (nI k)) 57 0 (nI (i + 1))) := cOff.trans (μ1 := wI μ7 57 1 (nI k)) (cOff_wI (PI := fun c => c = 57) rfl) (cOff_wI (PI := fun c => c = 57) rfl)
          refine b_X1_seekFirstBroken_83 hG hP6 ⟨hP6, fc_lo hf7 oB.o5 (fun c hc => by omega), (ho4'.trans (ho6'.mono (fun c hc => pn_fo hc) (fun c hc => hc))).trans (oB.o5.mono (fun c hc => Or.inl hc) (fun c hc => hc.elim)), ?_, ?_, ?_⟩
          · rw [wI_off' (by decide), wI_off' (by decide), fo_57 ht2 ho6']; exact e57.1
          · rw [wI_at]
          · rw [wI_off' (by decide), wI_at]
    exact loop 0 (by omega) μ4 hP4 hS4 cO5.refl (fun j hj => by omega)
theorem c_X2_looksAtFog (hG : gGG G) {μ : jM} (hP : gPP μ) {t q : Nat} {T : sT} {Lw : Nat → sLaw} (ht : tO gTold pTold G μ t) (hx : txC μ t T Lw) (hq : q < 2) : jC0 l mX2_looksAtFog 0 G [.ref (lw t q)] μ (pI fun z μ' => μ' = μ ∧ ((z = 1 ∧ uL (Lw q) 3 = true) ∨ (z = 0 ∧ uL (Lw q) 3 = false))) := by
  refine jC0.of' (ls := [.ref (lw t q)]) rfl rfl rfl (fun _ _ => Nat.le_of_ble_eq_true rfl) ?_
  have hm := (hx.2.2.2.2.1 q (by omega)).2.1
  have hvs : vsQ q 3 = true := by unfold vsQ; rw [if_neg (by omega)]; rfl
  have key : ((μ.2.1 (lw t q) 0) &&& 268435456 = 0) ↔ uL (Lw q) 3 = false := by
    rw [hm]; unfold mkL; rw [fog_mask, hvs, Bool.and_true]
  refine b_X2_looksAtFog_0 hG hP (tO_law ht (by omega)) (fun h => ⟨rfl, Or.inr ⟨rfl, ?_⟩⟩) (fun h => ⟨rfl, Or.inl ⟨rfl, ?_⟩⟩)
  · rw [lgc0] at h; exact key.mp h
  · rw [lgc0] at h
    cases hb : uL (Lw q) 3
    · exact absurd (key.mpr hb) h
    · rfl
theorem c_X8_hangsOnSeed (hG : gGG G) {μ : jM} (hP : gPP μ) {t : Nat} {T : sT} {Lw : Nat → sLaw} (ht : tO gTold pTold G μ t) (hx : txC μ t T Lw) : jC0 l mX8_hangsOnSeed 1 G [.ref t] μ (pI fun z μ' => μ' = μ ∧ ((z = 1 ∧ hangs T Lw) ∨ (z = 0 ∧ ¬ hangs T Lw))) := by
  refine jC0.of' (ls := [.ref t, .null]) rfl rfl rfl (fun _ _ => Nat.le_of_ble_eq_true rfl) ?_
  have h4 := hx.2.2.2.2.2.1.2.2.2.2.1
  have f16 : μ.1 t 16 = nI (T 0 4) := hx.2.1.2.2.2.2.1
  have le0 : (μ.1 t 16 ≤ 0) ↔ T 0 4 = 0 := by rw [f16]; exact (nI_leI (b := 0) (by omega) (by decide)).trans (by omega)
  have le1 : ((100 : Int32) ≤ μ.1 t 16) ↔ 100 ≤ T 0 4 := by rw [f16]; exact nI_leI (a := 100) (by decide) (by omega)
  refine b_X8_hangsOnSeed_0 hG hP ht (c_X2_looksAtFog (q := 0) hG hP ht hx (by decide)) ?_
  rintro z μ1 ⟨rfl, hz⟩
  refine b_X8_hangsOnSeed_7 hG hP ht (fun _ h => absurd h (by decide)) (fun h _ h1 => ⟨rfl, Or.inr ⟨rfl, fun y => ?_⟩⟩) (fun h _ _ h1 => ⟨rfl, Or.inr ⟨rfl, fun y => ?_⟩⟩) (fun h _ h1 h2 => ⟨rfl, Or.inl ⟨rfl, ?_⟩⟩) (fun _ => c_X2_looksAtFog (q := 1) hG hP ht hx (by decide)) (fun h => ?_)
  · have := le0.mp h1; have := y.2.1; omega
  · have := le1.mp h1; have := y.2.2; omega
  · rw [le0] at h1; rw [le1] at h2
    rcases hz with ⟨-, hz⟩ | ⟨hz, -⟩
    · exact ⟨Or.inl hz, by omega, by omega⟩
    · exact absurd hz h
  · have hz0 : uL (Lw 0) 3 = false := by
      rcases hz with ⟨z1, -⟩ | ⟨-, z1⟩
      · rw [z1] at h; exact absurd h (by decide)
      · exact z1
    rintro z2 μ2 ⟨rfl, hz2⟩
    refine b_X8_hangsOnSeed_17 hG hP ht (fun h1 _ => ⟨rfl, Or.inr ⟨rfl, fun y => ?_⟩⟩) (fun _ h1 => absurd rfl h1) (fun _ h1 => absurd rfl h1) (fun _ h1 => absurd rfl h1) (fun _ h1 => absurd h1 (by decide)) (fun h1 _ h2 => ⟨rfl, Or.inr ⟨rfl, fun y => ?_⟩⟩) (fun h1 _ _ h2 => ⟨rfl, Or.inr ⟨rfl, fun y => ?_⟩⟩) (fun h1 _ h2 h3 => ⟨rfl, Or.inl ⟨rfl, ?_⟩⟩)
    · have : uL (Lw 1) 3 = false := by
        rcases hz2 with ⟨z1, -⟩ | ⟨-, z1⟩
        · rw [z1] at h1; exact absurd h1 (by decide)
        · exact z1
      rcases y.1 with z | z
      · rw [hz0] at z; cases z
      · rw [this] at z; cases z
    · have := le0.mp h2; have := y.2.1; omega
    · have := le1.mp h2; have := y.2.2; omega
    · rw [le0] at h2; rw [le1] at h3
      rcases hz2 with ⟨-, hz2⟩ | ⟨hz2, -⟩
      · exact ⟨Or.inr hz2, by omega, by omega⟩
      · exact absurd hz2 h1
theorem c_X1_growthBySeeds (hG : gGG G) {μ : jM} (hP : gPP μ) {t B n s : Nat} {T : sT} {Lw : Nat → sLaw} {S : sR} (hf : fcI G μ t T Lw S B) (hn : n ≤ 60) (hs : s ≤ 20) :
    jC0 l mX1_growthBySeeds 6 G [.ref 57, .int (nI n), .int (nI s)] μ (pI fun z μ' => fcI G μ' t T Lw S B ∧ cO5 (pnI t 59 0) (lnL t) μ μ' ∧ z = yrV T Lw S n s) := by
  refine jC0.of' (ls := [.ref 57, .int (nI n), .int (nI s), .null, .null]) rfl rfl rfl (fun _ _ => Nat.le_of_ble_eq_true rfl) ?_
  have hx := hf.1.2.2.1
  have hv := hx.2.2.2.2.2
  obtain ⟨r, hr9, hr⟩ := hf.2.2.1.2.2
  obtain ⟨w, hw, hw67⟩ := hf.2.2.1.1.1
  refine b_X1_growthBySeeds_0 hG hP hf.1.1 hf.1.2.1 (c_X8_hangsOnSeed hG hP hf.1.1 hx) ?_
  rintro z μ ⟨rfl, hz⟩
  refine b_X1_growthBySeeds_10 hG hP (fun h => ?_) (fun _ => fc_start hG hP hf) (fun h => ?_)
  · have loop : ∀ i, i ≤ s → ∀ μ1, gPP μ1 → fcI G μ1 t T Lw S B → cO5 (pnI t 59 0) (lnL t) μ μ1 → J l mX1_growthBySeeds (jZ0 6 G (pI fun z μ' => fcI G μ' t T Lw S B ∧ cO5 (pnI t 59 0) (lnL t) μ μ' ∧ z = yrV T Lw S n s)) G 0 0 36 [.ref 57, .int (nI n), .int (nI s), .int (yrV T Lw S n i), .int (nI i)] [] μ1 := by
      refine up_loop s ?_ (fun i hi ih => ?_)
      · intro μ1 h1 h2 h3
        have hle : nI s ≤ nI s := nI_le (Nat.le_refl _) (by omega)
        exact b_X1_growthBySeeds_36 (ψ1 := fun _ => True) hG h1 (fun _ => ⟨h2, h3, rfl⟩) (fun h => absurd hle h) (fun h => absurd hle h)
      · intro μ1 h1 h2 h3
        refine b_X1_growthBySeeds_36 hG h1 (fun h => absurd h (nI_ge hi (by omega))) (fun _ => fc_start hG h1 h2) (fun _ => ?_)
        rintro μ3 ⟨hP3, hf3, ho3, hr3⟩
        have hr4 : (wI μ3 59 5 (μ3.1 59 5 + nI i)).1 59 = cRow S (S 65) (nI (T 0 7) + nI i) (thN T) := by
          rw [wI_eq, hr3, cRow_lots]; rfl
        refine b_X1_growthBySeeds_46 hG hP3 (fc_run (μ := wI μ3 59 5 (μ3.1 59 5 + nI i)) hG hP3 (fc_59 hf3 (by decide)) hr4 hf.2.2.1.1 ⟨⟨r, hr9, hr⟩, r, hr9, hr⟩ (by omega)) ?_
        rintro μ5 ⟨hP5, hf5, ho5, hr5⟩
        rw [nn_c hv hr9 hr] at hr5
        refine b_X1_growthBySeeds_65 hG hP5 (fc_till hG hP5 hf5 hr5) ?_
        rintro z μ6 ⟨rfl, rfl⟩
        refine b_X1_growthBySeeds_72 hG hP5 ?_
        rw [nI_inc]
        refine ih _ hP5 hf5 ?_
        have ho34 : cO5 (pnI t 59 0) (lnL t) μ1 (wI μ3 59 5 (μ3.1 59 5 + nI i)) := (ho3.mono (fun c hc => Or.inr (Or.inr (Or.inl hc))) (fun c hc => hc.elim)).trans ((cOff_wI (PI := fun c => c = 59) (PL := fun _ => False) rfl).o5.mono (fun c hc => Or.inr (Or.inr (Or.inl hc))) (fun c hc => hc.elim))
        exact (h3.trans ho34).trans ho5
    exact loop 0 (Nat.zero_le _) μ hP hf cO5.refl
  · have hnh : ¬ hangs T Lw := by
      rcases hz with ⟨z1, -⟩ | ⟨-, z1⟩
      · rw [z1] at h; exact absurd h (by decide)
      · exact z1
    rintro μ3 ⟨hP3, hf3, ho3, hr3⟩
    refine b_X1_growthBySeeds_17 hG hP3 (fc_run hG hP3 hf3 hr3 hf.2.2.1.1 ⟨⟨r, hr9, hr⟩, r, hr9, hr⟩ (by omega)) ?_
    rintro μ5 ⟨hP5, hf5, ho5, hr5⟩
    rw [nn_c hv hr9 hr] at hr5
    refine b_X1_growthBySeeds_22 hG hP5 (fc_till hG hP5 hf5 hr5) ?_
    rintro z μ6 ⟨rfl, rfl⟩
    refine b_X1_growthBySeeds_28 hG hP5 ⟨hf5, (ho3.mono (fun c hc => Or.inr (Or.inr (Or.inl hc))) (fun c hc => hc.elim)).trans ho5, ?_⟩
    unfold yrV
    rw [← sm_const]
    exact sm_congr s (fun i hi => by rw [seed_Nn hv hnh hw67 (nI (T 0 7)) (nI (T 0 7) + nI i)])
end ForeD
