/-! THE CLASS: the nights of one set are learnt -/
/-- the row by which a set's nights go on -/
noncomputable def lrS (T : sT) (Lw : Nat → sLaw) (s m : Nat) : sR := fun j => if j < 12 then sdW T Lw s m j else if j = 67 then nI m else sBg T j
theorem sd_67 {T : sT} {Lw : Nat → sLaw} (hv : vT T Lw) {s m : Nat} : sdW T Lw s m 67 = nI m := by
  have := (sNn_grow hv (lots := nI (T 0 7)) (od := -1) (th := nI s) (S := sBg T) m).2.2.2.2.2.1 0 (by unfold sBg; rw [upd_ne (by decide), upd_ne (by decide)]; rfl)
  rw [Nat.zero_add] at this; exact this
theorem lr_core {T : sT} {Lw : Nat → sLaw} (hv : vT T Lw) {s m j : Nat} (hj : core j) : lrS T Lw s m j = sdW T Lw s m j := by
  unfold lrS
  rcases hj with h | rfl | rfl | rfl
  · rw [if_pos h]
  · rw [if_neg (by decide), if_neg (by decide)]; exact (sNn_64 hv m).symm
  · rw [if_neg (by decide), if_neg (by decide)]; exact (sNn_65 hv m).symm
  · rw [if_neg (by decide), if_pos rfl]; exact (sd_67 hv).symm
theorem lr_n {T : sT} {Lw : Nat → sLaw} (hv : vT T Lw) {s m : Nat} : ∃ e : Nat → Int32, (∀ j, core j → e j = 0) ∧ ∀ n j, sNn T Lw (nI (T 0 7)) (nI 1) (nI s) n (lrS T Lw s m) j = sdW T Lw s (m + n) j + e j := by
  refine ⟨fun j => lrS T Lw s m j - sdW T Lw s m j, fun j hj => by show _ - _ = _; rw [lr_core hv hj, Int32.sub_self], fun n j => ?_⟩
  have h65 : lrS T Lw s m 65 = nI 1 := by unfold lrS sBg; rw [if_neg (by decide), if_neg (by decide), upd_at]; rfl
  have hod := od_plain (S := lrS T Lw s m) (r := 1) (by decide) h65
  rw [h65] at hod
  rw [sNn_od hv (od' := -1) (th' := nI s) hod (fun _ _ => Iff.rfl) n]
  rw [sNn_sh hv (S := sdW T Lw s m) (S' := lrS T Lw s m) (e := fun j => lrS T Lw s m j - sdW T Lw s m j) (fun j => by rw [Int32.sub_eq_add_neg, Int32.add_comm (lrS T Lw s m j), ← Int32.add_assoc, Int32.add_right_neg, Int32.zero_add]) (fun j hj => by show _ - _ = _; rw [lr_core hv hj, Int32.sub_self]) n j]
  unfold sdW
  rw [sNn_add]
theorem lr_rg {T : sT} {Lw : Nat → sLaw} (hv : vT T Lw) {s m : Nat} : rgS (lrS T Lw s m) m := by
  refine ⟨⟨m, Nat.le_refl _, by unfold lrS; rw [if_neg (by decide), if_pos rfl]⟩, fun k hk => ?_⟩
  unfold lrS
  by_cases h : k < 12
  · rw [if_pos h]; exact (rg_sd hv).2 k hk
  · rw [if_neg h, if_neg (by omega)]
    unfold sBg
    rw [upd_ne (by omega), upd_ne (by omega)]; exact ⟨0, by omega, rfl⟩
theorem lr_row {T : sT} {Lw : Nat → sLaw} {s m : Nat} {F : Nat → Int32} (hF : ∀ k, k < 12 → F (7 + k) = sdW T Lw s m k) (hF2 : ∀ j, j < 7 ∨ 19 ≤ j → F j = upd (upd (cRow (sBg T) 1 (nI (T 0 7)) (thN T)) 6 (nI s)) 0 (nI m) j) : F = cRow (lrS T Lw s m) (nI 1) (nI (T 0 7)) (nI s) := by
  funext j
  by_cases h : 7 ≤ j ∧ j < 19
  · obtain ⟨k, rfl⟩ : ∃ k, j = 7 + k := ⟨j - 7, by omega⟩
    rw [hF k (by omega), cRow_w (by omega)]
    unfold lrS; rw [if_pos (by omega)]
  · rw [hF2 j (by omega)]
    by_cases h0 : j = 0
    · subst h0
      rw [upd_at]
      show _ = lrS T Lw s m 67
      unfold lrS; rw [if_neg (by decide), if_pos rfl]
    · rw [upd_ne h0]
      by_cases h6 : j = 6
      · subst h6; rw [upd_at]; rfl
      · rw [upd_ne h6]
        have l : ∀ i, 12 ≤ i → i ≠ 67 → lrS T Lw s m i = sBg T i := fun i h1 h2 => by unfold lrS; rw [if_neg (by omega), if_neg h2]
        by_cases h7 : j < 7
        · have : j = 1 ∨ j = 2 ∨ j = 3 ∨ j = 4 ∨ j = 5 := by omega
          rcases this with rfl | rfl | rfl | rfl | rfl
          · exact (l 65 (by decide) (by decide)).symm
          · rfl
          · exact (l 66 (by decide) (by decide)).symm
          · exact (l 64 (by decide) (by decide)).symm
          · rfl
        · by_cases h71 : j < 71
          · obtain ⟨k, rfl⟩ : ∃ k, j = 7 + k := ⟨j - 7, by omega⟩
            rw [cRow_w (by omega), cRow_w (by omega), l k (by omega) (by omega)]
          · rw [cRow_hi (by omega), cRow_hi (by omega)]
section DreamE
variable {l : Launch} {G : jG}
def lrI (t so wr c : Nat) : Prop := pnI t 65 0 c ∨ c = so ∨ c = wr
set_option maxHeartbeats 1000000 in
theorem c_X0_learnSet (hG : gGG G) {μ : jM} (hP : gPP μ) {t s m M so wr : Nat} {T : sT} {Lw : Nat → sLaw} (hp : peI G μ t T Lw) (hz : ∀ i, 71 ≤ i → μ.1 65 i = 0) (h7s : μ.2.2 63 7 = some so) (h8w : μ.2.2 63 8 = some wr) (gso : G[so]? = some (0, 3968)) (gwr : G[wr]? = some (0, 1536)) (hso : 167 ≤ so) (hwr : 167 ≤ wr) (hne : so ≠ wr) (hm : μ.1 63 6 = nI m) (hmM : m < M) (hM : M ≤ 31) (hs : s < 2 ^ T 0 2) (hw : 0 < m → ∀ k, k < 12 → μ.1 wr (12 * s + k) = sdW T Lw s m k) :
    jC0 l mX0_learnSet 5 G [.ref 63, .int (nI s), .int (nI M - 1)] μ (pV fun μ' => peI G μ' t T Lw ∧ (∀ i, 71 ≤ i → μ'.1 65 i = 0) ∧ cO5 (lrI t so wr) (lnL t) μ μ' ∧ (∀ n s', s' < 128 → (s' ≠ s ∨ n < m) → μ'.1 so (128 * n + s') = μ.1 so (128 * n + s')) ∧ (∀ n, m ≤ n → n < M → ∀ k, k < T 0 1 → (bt (μ'.1 so (128 * n + s)) k = true ↔ seB T Lw s n k = true)) ∧ (∀ k, k < 12 → μ'.1 wr (12 * s + k) = sdW T Lw s M k) ∧ ∀ s' k, k < 12 → s' ≠ s → μ'.1 wr (12 * s' + k) = μ.1 wr (12 * s' + k)) := by
  refine jC0.of' (ls := [.ref 63, .int (nI s), .int (nI M - 1), .null]) rfl rfl rfl (fun _ _ => Nat.le_of_ble_eq_true rfl) ?_
  obtain ⟨ht, q0, hx, hkc, hbr, hways⟩ := id hp
  have hv := hx.2.2.2.2.2
  have h12 := hv.1.2.1
  have h7 := hv.1.2.2.1
  have ht2 := hx.1
  have h128 : 2 ^ T 0 2 ≤ 2 ^ 7 := Nat.pow_le_pow_right (by decide) h7
  obtain ⟨X, hX⟩ : ∃ X : jM → Prop, X = fun μ' => peI G μ' t T Lw ∧ (∀ i, 71 ≤ i → μ'.1 65 i = 0) ∧ cO5 (lrI t so wr) (lnL t) μ μ' ∧ (∀ n s', s' < 128 → (s' ≠ s ∨ n < m) → μ'.1 so (128 * n + s') = μ.1 so (128 * n + s')) ∧ (∀ n, m ≤ n → n < M → ∀ k, k < T 0 1 → (bt (μ'.1 so (128 * n + s)) k = true ↔ seB T Lw s n k = true)) ∧ (∀ k, k < 12 → μ'.1 wr (12 * s + k) = sdW T Lw s M k) ∧ ∀ s' k, k < 12 → s' ≠ s → μ'.1 wr (12 * s' + k) = μ.1 wr (12 * s' + k) := ⟨_, rfl⟩
  rw [← hX]
  have e12 : nI s * 12 = nI (12 * s) := by rw [show (12 : Int32) = nI 12 from rfl, pk_mul, Nat.mul_comm]
  have c12 : (nI s * 12).toNatClampNeg = 12 * s := by rw [e12]; exact nI_clamp (by omega)
  have s12 : (12 : Int32).toNatClampNeg = 12 := rfl
  have s7 : (7 : Int32).toNatClampNeg = 7 := rfl
  have p12 : ¬ (nI s * 12) < 0 := by rw [e12]; exact nI_pos (by omega)
  refine b_X0_learnSet_0 hG hP ht q0 (c_X5_begin hG hP (s := 64) (by decide) ht hx hz) ?_
  rintro μ1 rfl
  obtain ⟨μ1, h1e⟩ : ∃ μ1, μ1 = sI μ 65 (cRow (sBg T) 1 (nI (T 0 7)) (thN T)) := ⟨_, rfl⟩
  rw [show (64 : Nat) + 1 = 65 from rfl, ← h1e]
  have hP1 : gPP μ1 := by rw [h1e]; exact hP
  have r22 : μ1.2.2 = μ.2.2 := by rw [h1e]; rfl
  have o1 : cOff (fun c => c = 65) (fun _ => False) μ μ1 := by rw [h1e]; exact cOff_sI rfl
  have hm1 : μ1.1 63 6 = nI m := by rw [o1.2.1 63 (by decide)]; exact hm
  -- behind the row's entering
  have tail : ∀ (μ2 : jM), cOff (fun c => c = 65) (fun _ => False) μ μ2 → μ2.1 65 = cRow (lrS T Lw s m) (nI 1) (nI (T 0 7)) (nI s) → ∃ ψ : jM → Prop, jC0 l mX10_enter 3 G [.ref 12, .ref 64] μ2 (pV ψ) ∧ ∀ μ', ψ μ' → J l mX0_learnSet (jZ0 5 G (pV X)) G 0 0 78 [.ref 63, .int (nI s), .int (nI M - 1), .null] [] μ' := by
    intro μ2 o2 hr2
    have hP2 := o2.gPP hP
    have hp2 : peI G μ2 t T Lw := peI_lo o2.o5 (fun c hc => by omega) (fun c hc => hc.elim) hp
    refine ⟨_, c_X10_enter hG hP2 (s := 64) hp2 (by decide) hr2 (lr_rg hv) (by unfold BB; omega) ⟨⟨1, by decide, by unfold lrS sBg; rw [if_neg (by decide), if_neg (by decide), upd_at]; rfl⟩, 1, by decide, rfl⟩, ?_⟩
    rintro μ3 ⟨hS3, ho3, -⟩
    have ho3' : cO5 (lrI t so wr) (lnL t) μ μ3 := (o2.o5.mono (fun c hc => Or.inl (Or.inr (Or.inr (Or.inl hc)))) (fun c hc => hc.elim)).trans (ho3.o5w.mono (fun c hc => Or.inl (by
      rcases hc with z | z | z | ⟨b, z1, z2⟩
      · exact Or.inl z
      · exact Or.inr (Or.inl z)
      · exact Or.inr (Or.inr (Or.inr (Or.inl z)))
      · exact Or.inr (Or.inr (Or.inr (Or.inr (by omega)))))) (fun c hc => hc))
    have hP3 := ho3'.gPP hP
    have e63 : μ3.1 63 = μ.1 63 := ho3'.2.1 63 (by unfold lrI pnI scI; omega)
    have eso : μ3.1 so = μ.1 so := by rw [ho3.o5w.2.1 so (by rintro (z | z | z | ⟨b, z1, z2⟩); omega; omega; (unfold scI at z; omega); omega), o2.2.1 so (by omega)]
    have ewr : μ3.1 wr = μ.1 wr := by rw [ho3.o5w.2.1 wr (by rintro (z | z | z | ⟨b, z1, z2⟩); omega; omega; (unfold scI at z; omega); omega), o2.2.1 wr (by omega)]
    refine b_X0_learnSet_78 hG hP3 ?_
    rw [e63, hm]
    obtain ⟨e, he0, hen⟩ := lr_n hv (T := T) (Lw := Lw) (s := s) (m := m)
    have loop : ∀ j, j ≤ M - m → ∀ μ4, gPP μ4 → enS G μ4 t 65 T Lw (sNn T Lw (nI (T 0 7)) (nI 1) (nI s) j (lrS T Lw s m)) (nI 1) (nI (T 0 7)) (nI s) (m + j) → cO5 (lrI t so wr) (lnL t) μ μ4 → μ4.1 wr = μ.1 wr → (∀ n s', s' < 128 → (s' ≠ s ∨ n < m) → μ4.1 so (128 * n + s') = μ.1 so (128 * n + s')) → (∀ n, m ≤ n → n < m + j → ∀ k, k < T 0 1 → (bt (μ4.1 so (128 * n + s)) k = true ↔ seB T Lw s n k = true)) → J l mX0_learnSet (jZ0 5 G (pV X)) G 0 0 83 [.ref 63, .int (nI s), .int (nI M - 1), .int (nI (m + j))] [] μ4 := by
      refine up_loop (M - m) ?_ (fun j hj ih => ?_)
      · intro μ4 hP4 hS4 ho4 hw4 hold hnew
        have hlt : nI M - 1 < nI (m + (M - m)) := (lI_lt (by omega) (by omega)).mpr (by omega)
        have q8 : μ4.2.2 63 8 = some wr := by rw [ho4.1 63 8 (by decide)]; exact h8w
        refine b_X0_learnSet_83 (ψ1 := fun _ => True) hG hP4 gwr q8 (fun _ => p12) (fun _ => by rw [c12, s12]; omega) (fun _ => ?_) (fun h => absurd hlt h) (fun h => absurd hlt h)
        rw [c12, s12, s7, hX]
        obtain ⟨C, hC⟩ : ∃ C, C = va_cpy (μ4.1 65) (μ4.1 wr) 7 (12 * s) 12 := ⟨_, rfl⟩
        rw [← hC]
        have ow : cOff (fun c => c = wr) (fun _ => False) μ4 (sI μ4 wr C) := cOff_sI rfl
        have hS5 := enS_lo ow (fun c hc => by omega) hS4
        refine ⟨enS_pe hS5, fun i hi => ?_, ho4.trans (ow.o5.mono (fun c hc => Or.inr (Or.inr hc)) (fun c hc => hc.elim)), fun n s' h1 h2 => ?_, fun n h1 h2 k hk => ?_, fun k hk => ?_, fun s' k hk hss => ?_⟩
        · rw [sI_ne (by omega), hS4.1.2.1, cRow_hi hi]
        · rw [sI_ne hne]; exact hold n s' h1 h2
        · rw [sI_ne hne]; exact hnew n h1 (by omega) k hk
        · rw [sI_eq, hC, pk_cpy_in (by omega) (by omega), show 12 * s + k - 12 * s = k by omega, hS4.1.2.1, cRow_w (by omega), hen, he0 k (Or.inl hk), Int32.add_zero, show m + (M - m) = M by omega]
        · rw [sI_eq, hC, pk_cpy_out (by omega), hw4]
      · intro μ4 hP4 hS4 ho4 hw4 hold hnew
        have hnl : ¬ nI M - 1 < nI (m + j) := fun z => by have := (lI_lt (by omega) (by omega)).mp z; omega
        have q8 : μ4.2.2 63 8 = some wr := by rw [ho4.1 63 8 (by decide)]; exact h8w
        refine b_X0_learnSet_83 hG hP4 gwr q8 (fun h => absurd h hnl) (fun h => absurd h hnl) (fun h => absurd h hnl) (fun _ => c_X10_passNight hG hP4 hS4 (by unfold BB; omega)) (fun _ => ?_)
        rintro μ5 ⟨hS5, ho5, -, hbits⟩
        have hP5 := ho5.gPP hP4
        have ho5' : cO5 (lrI t so wr) (lnL t) μ μ5 := ho4.trans (ho5.o5.mono (fun c hc => Or.inl hc) (fun c hc => hc))
        have q7 : μ5.2.2 63 7 = some so := by rw [ho5'.1 63 7 (by decide)]; exact h7s
        have ex : (nI (m + j) * 128) + nI s = nI (128 * (m + j) + s) := by rw [show (128 : Int32) = nI 128 from rfl, pk_mul, nI_add, Nat.mul_comm]
        have cx : ((nI (m + j) * 128) + nI s).toNatClampNeg = 128 * (m + j) + s := by rw [ex]; exact nI_clamp (by omega)
        refine b_X0_learnSet_95 hG hP5 gso q7 (by rw [ex]; exact vp_in_nI (by omega) (by decide)) ?_
        rw [cx, nI_inc]
        have eso5 : μ5.1 so = μ4.1 so := ho5.2.1 so (by unfold pnI scI; omega)
        have ewr5 : μ5.1 wr = μ4.1 wr := ho5.2.1 wr (by unfold pnI scI; omega)
        have ow : cOff (fun c => c = so) (fun _ => False) μ5 (wI μ5 so (128 * (m + j) + s) (μ5.1 12 2)) := cOff_wI rfl
        refine ih _ hP5 (enS_lo ow (fun c hc => by omega) hS5) (ho5'.trans (ow.o5.mono (fun c hc => Or.inr (Or.inl hc)) (fun c hc => hc.elim))) (by rw [wI_ne (Ne.symm hne), ewr5]; exact hw4) (fun n s' h1 h2 => ?_) (fun n h1 h2 k hk => ?_)
        · rw [wI_off' (by omega), eso5]; exact hold n s' h1 h2
        · by_cases en : n = m + j
          · rw [en, wI_at, hbits k (by omega)]
            have a1 := hen (j + 1) (12 + k)
            have a0 := hen j (12 + k)
            rw [show sNt T Lw (nI (T 0 7)) (nI 1) (nI s) (sNn T Lw (nI (T 0 7)) (nI 1) (nI s) j (lrS T Lw s m)) = sNn T Lw (nI (T 0 7)) (nI 1) (nI s) (j + 1) (lrS T Lw s m) from rfl, a1, a0, se_ne hv (by omega) (by omega), show m + (j + 1) = m + j + 1 by omega]
            constructor
            · intro h z; exact h (by rw [z])
            · intro h z
              refine h ?_
              have := congrArg (fun y => y + -(e (12 + k))) z
              simp only [Int32.add_assoc, Int32.add_right_neg, Int32.add_zero] at this
              exact this
          · rw [wI_off' (by omega), eso5]; exact hnew n h1 (by omega) k hk
    exact loop 0 (Nat.zero_le _) μ3 hP3 hS3 ho3' ewr (fun n s' _ _ => by rw [eso]) (fun n h1 h2 => by omega)
  have rowA : (wI (wI μ1 65 6 (nI s)) 65 0 (nI m)).1 65 = upd (upd (cRow (sBg T) 1 (nI (T 0 7)) (thN T)) 6 (nI s)) 0 (nI m) := by rw [wI_eq, wI_eq, h1e, sI_eq]
  have oA : cOff (fun c => c = 65) (fun _ => False) μ (wI (wI μ1 65 6 (nI s)) 65 0 (nI m)) := (o1.trans (cOff_wI rfl)).trans (cOff_wI rfl)
  have q8 : μ1.2.2 63 8 = some wr := by rw [r22]; exact h8w
  have lez : (μ1.1 63 6 ≤ (0 : Int32)) ↔ m = 0 := by rw [hm1]; exact (nI_leI (b := 0) (by omega) (by decide)).trans (by omega)
  by_cases h0 : m = 0
  · obtain ⟨ψ, ψ1, ψ2⟩ := tail _ oA (by
      rw [rowA]
      refine lr_row (fun k hk => ?_) (fun j _ => rfl)
      rw [upd_ne (by omega), upd_ne (by omega), cRow_w (by omega), h0]; rfl)
    exact b_X0_learnSet_14 (ψ1 := fun _ => True) hG hP1 gwr q8 (fun _ => by rw [hm1]; exact ψ1) (fun _ => ψ2) (fun h => absurd (lez.mpr h0) h) (fun h => absurd (lez.mpr h0) h) (fun h => absurd (lez.mpr h0) h) (fun h => absurd (lez.mpr h0) h)
  · have hnl : ¬ μ1.1 63 6 ≤ (0 : Int32) := fun z => h0 (lez.mp z)
    obtain ⟨ψ, ψ1, ψ2⟩ := tail (sI (wI (wI μ1 65 6 (nI s)) 65 0 (nI m)) 65 (va_cpy ((wI (wI μ1 65 6 (nI s)) 65 0 (nI m)).1 wr) ((wI (wI μ1 65 6 (nI s)) 65 0 (nI m)).1 65) (12 * s) 7 12)) (oA.trans (cOff_sI rfl)) (by
      rw [sI_eq]
      refine lr_row (fun k hk => ?_) (fun j hj => ?_)
      · rw [pk_cpy_in (by omega) (by omega), show 12 * s + (7 + k - 7) = 12 * s + k by omega, oA.2.1 wr (by omega)]
        exact hw (by omega) k hk
      · rw [pk_cpy_out (by omega), rowA])
    exact b_X0_learnSet_14 (ψ0 := fun _ => True) hG hP1 gwr q8 (fun h => absurd h hnl) (fun h => absurd h hnl) (fun _ => p12) (fun _ => by rw [c12, s12]; omega) (fun _ => by rw [hm1, c12, s12, s7]; exact ψ1) (fun _ => ψ2)
end DreamE
