/-! A NIGHT, on a row -/
def addR (S : sR) (i : Nat) (x : Int32) : sR := upd S i (S i + x)
def sPay (ow : Nat → Int32) (k : Nat) (c : Int32) : Int32 := if c ≤ ow k then c else ow k
def sG1 (T : sT) (a k : Nat) (pay : Int32) (S : sR) : sR :=
  if T 4 k = 1 then addR (addR (addR (addR (addR (addR S (24 + k) pay) (36 + a) pay) 66 pay) k 1) (12 + k) 1) (57 + a) 1 else addR (addR (addR (addR S (24 + k) pay) (36 + a) pay) 66 pay) k 1
def sGo (T : sT) (ow : Nat → Int32) (a : Nat) : List Nat → Int32 → sR → sR
  | [], _, S => S
  | k :: W, c, S => sGo T ow a W (c - sPay ow k c) (sG1 T a k (sPay ow k c) S)
theorem addR_ne {S : sR} {i j : Nat} {x : Int32} (h : j ≠ i) : addR S i x j = S j := upd_ne h
theorem sG1_keep {T : sT} {a k j : Nat} {p : Int32} {S : sR} (hk : k < 12) (ha : a < 7) (hj : j = 64 ∨ j = 65 ∨ j = 67) : sG1 T a k p S j = S j := by
  unfold sG1
  split
  · rw [addR_ne (by omega), addR_ne (by omega), addR_ne (by omega), addR_ne (by omega), addR_ne (by omega), addR_ne (by omega)]
  · rw [addR_ne (by omega), addR_ne (by omega), addR_ne (by omega), addR_ne (by omega)]
theorem sGo_keep {T : sT} {ow : Nat → Int32} {a j : Nat} (ha : a < 7) (hj : j = 64 ∨ j = 65 ∨ j = 67) : ∀ (W : List Nat) (c : Int32) (S : sR), (∀ k ∈ W, k < 12) → sGo T ow a W c S j = S j := by
  intro W
  induction W with
  | nil => intro c S _; rfl
  | cons k W ih =>
    intro c S hW
    unfold sGo
    rw [ih _ _ (fun k hk => hW k (List.mem_cons_of_mem _ hk)), sG1_keep (hW k List.mem_cons_self) ha hj]
section NightM
variable {l : Launch} {G : jG}
theorem wI_add {μ : jM} {S : sR} {i : Nat} {x : Int32} : wI (sI μ 152 S) 152 i ((sI μ 152 S).1 152 i + x) = sI μ 152 (addR S i x) := by rw [wI_sI, sI_eq]; rfl
theorem c_X12_goesHis (hG : gMM G) {μ : jM} (hP : gNN μ) {v a : Nat} {T : sT} {Lw : Nat → sLaw} (ht : txM μ v T Lw) (ha : a < T 0 2) {W : List Nat} (hw : wyM μ W) (hl8 : W.length ≤ 8) (hWn : ∀ k ∈ W, k < T 0 1) {ow : Nat → Int32} (ho : ∀ k, k < T 0 1 → μ.1 155 k = ow k) : jC0 l mX12_goesHis 1 G [.ref 112, .int (nI a)] μ (pV fun μ' => μ' = sI μ 152 (sGo T ow a W (nI (T 8 a)) (addR (μ.1 152) (43 + a) 1))) := by
  refine jC0.of' (ls := [.ref 112, .int (nI a), .null, .null, .null, .null]) rfl rfl rfl (fun _ _ => Nat.le_of_ble_eq_true rfl) ?_
  have hv := ht.1.1
  have hna := ht.2.2.2.2.2.1.2.2.1
  have hnk := ht.2.2.2.2.2.1.2.1
  have hi := ix7 ht.1.2 (rfl : nI a = nI a)
  have hca : (nI (7 * v + a)).toNatClampNeg = 7 * v + a := nI_clamp (by omega)
  have g8 := (ht.2.2.2.1 a ha).2.2.2.1
  have i43 : (43 : Int32) + nI a = nI (43 + a) := nI_add 43 a
  have i36 : (36 : Int32) + nI a = nI (36 + a) := nI_add 36 a
  have i57 : (57 : Int32) + nI a = nI (57 + a) := nI_add 57 a
  have c43 : (nI (43 + a)).toNatClampNeg = 43 + a := nI_clamp (by omega)
  have c36 : (nI (36 + a)).toNatClampNeg = 36 + a := nI_clamp (by omega)
  have c57 : (nI (57 + a)).toNatClampNeg = 57 + a := nI_clamp (by omega)
  refine b_X12_goesHis_0 hG hP (by rw [hi]; exact vp_in_nI (by omega) (by omega)) (by rw [i43]; exact vp_in_nI (by omega) (by omega)) ?_
  rw [hi, hca, g8, i43, c43, show wI μ 152 (43 + a) (μ.1 152 (43 + a) + 1) = sI μ 152 (addR (μ.1 152) (43 + a) 1) from rfl]
  generalize addR (μ.1 152) (43 + a) 1 = S0
  have loop : ∀ (R Wd : List Nat) (c : Int32) (S : sR), W = Wd ++ R → sGo T ow a W (nI (T 8 a)) S0 = sGo T ow a R c S → J l mX12_goesHis (jZ0 1 G (pV fun μ' => μ' = sI μ 152 (sGo T ow a W (nI (T 8 a)) S0))) G 0 0 30 [.ref 112, .int (nI a), .int c, .int (nI Wd.length), .null, .null] [] (sI μ 152 S) := by
    intro R
    induction R with
    | nil =>
      intro Wd c S hWR he
      have hlen : Wd.length = W.length := by rw [hWR]; simp
      have hle : (sI μ 152 S).1 112 65 ≤ nI Wd.length := by rw [sI_ne (by decide), hw.1, hlen]; exact nI_le (Nat.le_refl _) (by omega)
      refine b_X12_goesHis_30 (μ := sI μ 152 S) hG hP (fun _ => by rw [he]; rfl) ?_ ?_ ?_ ?_
      all_goals (intro h; exact absurd hle h)
    | cons k R ih =>
      intro Wd c S hWR he
      have hlen : W.length = Wd.length + (R.length + 1) := by rw [hWR]; simp
      have hgt : ¬ (sI μ 152 S).1 112 65 ≤ nI Wd.length := by rw [sI_ne (by decide), hw.1]; exact nI_ge (by omega) (by omega)
      have hdd : (nI Wd.length).toNatClampNeg = Wd.length := nI_clamp (by omega)
      have hk : k < T 0 1 := hWn k (by rw [hWR]; simp)
      have h156 : (sI μ 152 S).1 156 (nI Wd.length).toNatClampNeg = nI k := by rw [hdd, sI_ne (by decide)]; exact hw.2 _ _ (by rw [hWR]; simp)
      have hkk : (nI k).toNatClampNeg = k := nI_clamp (by omega)
      have h155 : (sI μ 152 S).1 155 k = ow k := by rw [sI_ne (by decide)]; exact ho k hk
      have i24 : (24 : Int32) + nI k = nI (24 + k) := nI_add 24 k
      have i12 : (12 : Int32) + nI k = nI (12 + k) := nI_add 12 k
      have c24 : (nI (24 + k)).toNatClampNeg = 24 + k := nI_clamp (by omega)
      have c12 : (nI (12 + k)).toNatClampNeg = 12 + k := nI_clamp (by omega)
      have walk : J l mX12_goesHis (jZ0 1 G (pV fun μ' => μ' = sI μ 152 (sGo T ow a W (nI (T 8 a)) S0))) G 0 0 68 [.ref 112, .int (nI a), .int c, .int (nI Wd.length), .int (nI k), .null] [.int (sPay ow k c)] (sI μ 152 S) := by
        have he' : sGo T ow a W (nI (T 8 a)) S0 = sGo T ow a R (c - sPay ow k c) (sG1 T a k (sPay ow k c) S) := by rw [he]; rfl
        generalize sPay ow k c = z at he' ⊢
        refine b_X12_goesHis_68 (μ := sI μ 152 S) (ψ0 := fun r μ' => μ' = sI μ 152 (addR (addR (addR (addR S (24 + k) z) (36 + a) z) 66 z) k 1) ∧ r = nI (T 4 k)) hG hP (by rw [i24]; exact vp_in_nI (by omega) (by omega)) (by rw [i36]; exact vp_in_nI (by omega) (by omega)) (vp_in_nI (by omega) (by omega)) ?_ ?_
        · rw [i24, c24, i36, c36, hkk, wI_add, wI_add, wI_add, wI_add]
          have hm : mOff [152] [] μ (sI μ 152 (addR (addR (addR (addR S (24 + k) z) (36 + a) z) 66 z) k 1)) := mOff_sI (by decide) (by decide)
          exact c_X12_overField hG (hm.gNN hP) (txM_off hm ⟨by decide, by decide⟩ ht) hk
        · rintro r μ1 ⟨rfl, rfl⟩
          have h4 := (ht.2.2.2.2.2.2.1 k hk).2.2.2.2.2
          refine b_X12_goesHis_133 (μ := sI μ 152 (addR (addR (addR (addR S (24 + k) z) (36 + a) z) 66 z) k 1)) hG hP (fun _ => by rw [i12]; exact vp_in_nI (by omega) (by omega)) (fun _ => by rw [i57]; exact vp_in_nI (by omega) (by omega)) (fun h => ?_) (fun h => ?_)
          · have e4 : T 4 k = 1 := by
              rcases Nat.le_one_iff_eq_zero_or_eq_one.mp h4 with y | y
              · rw [y] at h; exact absurd rfl h
              · exact y
            rw [i12, c12, i57, c57, wI_add, wI_add]
            refine b_X12_goesHis_166 (μ := sI μ 152 _) hG hP ?_
            rw [nI_inc]
            have := ih (Wd ++ [k]) (c - z) (sG1 T a k z S) (by rw [hWR]; simp) he'
            rw [sG1, if_pos e4] at this
            simpa using this
          · have e4 : ¬ T 4 k = 1 := fun y => by rw [y] at h; exact absurd h (by decide)
            refine b_X12_goesHis_166 (μ := sI μ 152 _) hG hP ?_
            rw [nI_inc]
            have := ih (Wd ++ [k]) (c - z) (sG1 T a k z S) (by rw [hWR]; simp) he'
            rw [sG1, if_neg e4] at this
            simpa using this
      refine b_X12_goesHis_30 (μ := sI μ 152 S) hG hP (fun h => absurd h hgt) (fun _ => vp_in_nI (by omega) (by decide)) (fun _ => by rw [h156]; exact vp_in_nI (by omega) (by decide)) (fun _ h => ?_) (fun _ h => ?_)
      · rw [h156, hkk, h155] at h
        rw [h156]
        have e : sPay ow k c = c := by rw [sPay, if_pos h]
        rw [e] at walk
        exact walk
      · rw [h156, hkk, h155] at h
        rw [h156, hkk, h155]
        have e : sPay ow k c = ow k := by rw [sPay, if_neg h]
        rw [e] at walk
        exact walk
  exact loop W [] (nI (T 8 a)) S0 rfl rfl
/-! a GHOST's night; a night; nights -/
noncomputable def sDs (T : sT) (Lw : Nat → sLaw) (lots od : Int32) (S : sR) (a : Nat) : Nat → Nat := sD T (sPr T Lw S lots od a) (T 6 a)
noncomputable def sWl (T : sT) (Lw : Nat → sLaw) (lots od : Int32) (S : sR) (a : Nat) : List Nat := sWy T (sPr T Lw S lots od a) (sDs T Lw lots od S a) (T 6 a) 8 (T 5 a)
def sHis (T : sT) (S : sR) (a : Nat) : Prop := S 67 - S 67 / nI (T 9 a) * nI (T 9 a) = 0
def sTh (th : Int32) (a : Nat) : Prop := ¬ ((th >>> (nI a &&& 31)) &&& 1) = 0
noncomputable def sNA (T : sT) (Lw : Nat → sLaw) (lots od th : Int32) (a : Nat) (S : sR) : sR :=
  @ite _ (sTh th a ∧ sHis T S a) (Classical.propDecidable _) (if sDs T Lw lots od S a (T 5 a) < INF then sGo T (sOw T Lw S lots od a) a (sWl T Lw lots od S a) (nI (T 8 a)) (addR S (43 + a) 1) else addR S (50 + a) 1) S
noncomputable def sNs (T : sT) (Lw : Nat → sLaw) (lots od th : Int32) : Nat → sR → sR
  | 0, S => S
  | n + 1, S => sNA T Lw lots od th n (sNs T Lw lots od th n S)
noncomputable def sNt (T : sT) (Lw : Nat → sLaw) (lots od th : Int32) (S : sR) : sR := addR (sNs T Lw lots od th (T 0 2) S) 67 1
noncomputable def sNn (T : sT) (Lw : Nat → sLaw) (lots od th : Int32) : Nat → sR → sR
  | 0, S => S
  | n + 1, S => sNt T Lw lots od th (sNn T Lw lots od th n S)
theorem sWl_in {T : sT} {Lw : Nat → sLaw} (hv : vT T Lw) {lots od : Int32} {S : sR} {a : Nat} (h : sDs T Lw lots od S a (T 5 a) < INF) : (sWl T Lw lots od S a).length ≤ 8 ∧ ∀ k ∈ sWl T Lw lots od S a, k < T 0 1 := by
  have hp1 : ∀ k, k < T 0 1 → 1 ≤ sPr T Lw S lots od a k := fun k hk => by
    have h3 := hv.2.1 k hk
    exact (sPr_in ⟨h3.2.2.2.1, h3.2.2.2.2.1⟩).1
  exact ⟨sWy_len 8 _, sWy_in hv (sD_is hv hp1) hp1 8 _ h⟩
theorem sNA_keep {T : sT} {Lw : Nat → sLaw} (hv : vT T Lw) {lots od th : Int32} {a j : Nat} {S : sR} (ha : a < T 0 2) (hj : j = 64 ∨ j = 65 ∨ j = 67) : sNA T Lw lots od th a S j = S j := by
  have h7 := hv.1.2.2.1
  have h12 := hv.1.2.1
  unfold sNA
  split
  · split
    · next h =>
      rw [sGo_keep (by omega) hj _ _ _ (fun k hk => by have := (sWl_in hv h).2 k hk; omega), addR_ne (by omega)]
    · rw [addR_ne (by omega)]
  · rfl
theorem sNs_keep {T : sT} {Lw : Nat → sLaw} (hv : vT T Lw) {lots od th : Int32} {j : Nat} {S : sR} (hj : j = 64 ∨ j = 65 ∨ j = 67) : ∀ n, n ≤ T 0 2 → sNs T Lw lots od th n S j = S j := by
  intro n
  induction n with
  | zero => intro _; rfl
  | succ n ih => intro hn; unfold sNs; rw [sNA_keep hv (by omega) hj, ih (by omega)]
def mNC : List Nat := [149, 150, 152, 153, 154, 155, 156]
def mNF : List Nat := [55, 65]
theorem c_X12_nightGoes (hG : gMM G) {μ : jM} (hP : gNN μ) {v : Nat} {T : sT} {Lw : Nat → sLaw} (ht : txM μ v T Lw) (hr : rtOK (μ.1 152) (μ.1 112 60)) : jC0 l mX12_nightGoes 7 G [.ref 112] μ (pV fun μ' => mOff mNC mNF μ μ' ∧ μ'.1 152 = sNt T Lw (μ.1 112 58) (μ.1 112 60) (μ.1 112 59) (μ.1 152)) := by
  refine jC0.of' (ls := [.ref 112, .null]) rfl rfl rfl (fun _ _ => Nat.le_of_ble_eq_true rfl) ?_
  have hv := ht.1.1
  have hvt := ht.2.2.2.2.2
  have hna := ht.2.2.2.2.2.1.2.2.1
  refine b_X12_nightGoes_0 hG hP ?_
  have loop : ∀ a, a ≤ T 0 2 → ∀ μ1, mOff mNC mNF μ μ1 → μ1.1 152 = sNs T Lw (μ.1 112 58) (μ.1 112 60) (μ.1 112 59) a (μ.1 152) → J l mX12_nightGoes (jZ0 7 G (pV fun μ' => mOff mNC mNF μ μ' ∧ μ'.1 152 = sNt T Lw (μ.1 112 58) (μ.1 112 60) (μ.1 112 59) (μ.1 152))) G 0 0 2 [.ref 112, .int (nI a)] [] μ1 := by
    refine up_loop (T 0 2) ?_ (fun a ha ih => ?_)
    · intro μ1 hm1 hS1
      have ht1 := txM_off hm1 ⟨by decide, by decide⟩ ht
      have hcl : (μ1.1 112 18).toNatClampNeg = v := ix_cl ht1.1.2 (by omega)
      have hle : μ1.1 129 (μ1.1 112 18).toNatClampNeg ≤ nI (T 0 2) := by rw [hcl, ht1.2.1.2.2.1]; exact nI_le (Nat.le_refl _) (by omega)
      refine b_X12_nightGoes_2 (ψ2 := fun _ _ => True) hG (hm1.gNN hP) (ix_in ht1.1.2 hv (by decide)) (fun _ => ⟨hm1.trans (mOff_wC (by decide) (by decide)), ?_⟩) (fun h => absurd hle h) (fun h => absurd hle h) (fun h => absurd hle h)
      rw [wI_eq, hS1]; rfl
    · intro μ1 hm1 hS1
      have hP1 := hm1.gNN hP
      have ht1 := txM_off hm1 ⟨by decide, by decide⟩ ht
      have hcl : (μ1.1 112 18).toNatClampNeg = v := ix_cl ht1.1.2 (by omega)
      have hgt : ¬ μ1.1 129 (μ1.1 112 18).toNatClampNeg ≤ nI a := by rw [hcl, ht1.2.1.2.2.1]; exact nI_ge ha (by omega)
      have hr1 : rtOK (μ1.1 152) (μ1.1 112 60) := by
        rw [hm1.f 60]; unfold rtOK; rw [hS1, sNs_keep hvt (Or.inr (Or.inl rfl)) a (by omega)]; exact hr
      have hstep : ∀ μ2, mOff mNC mNF μ1 μ2 → μ2.1 152 = sNA T Lw (μ.1 112 58) (μ.1 112 60) (μ.1 112 59) a (μ1.1 152) → J l mX12_nightGoes (jZ0 7 G (pV fun μ' => mOff mNC mNF μ μ' ∧ μ'.1 152 = sNt T Lw (μ.1 112 58) (μ.1 112 60) (μ.1 112 59) (μ.1 152))) G 0 0 2 [.ref 112, .int (nI a + 1)] [] μ2 := by
        intro μ2 hm2 hS2
        rw [nI_inc]
        exact ih μ2 (hm1.trans hm2) (by rw [hS2, hS1]; rfl)
      have hno : ¬ (sTh (μ.1 112 59) a ∧ sHis T (μ1.1 152) a) → sNA T Lw (μ.1 112 58) (μ.1 112 60) (μ.1 112 59) a (μ1.1 152) = μ1.1 152 := fun h => by unfold sNA; rw [if_neg h]
      have hyes : sTh (μ.1 112 59) a ∧ sHis T (μ1.1 152) a → sNA T Lw (μ.1 112 58) (μ.1 112 60) (μ.1 112 59) a (μ1.1 152) = if sDs T Lw (μ.1 112 58) (μ.1 112 60) (μ1.1 152) a (T 5 a) < INF then sGo T (sOw T Lw (μ1.1 152) (μ.1 112 58) (μ.1 112 60) a) a (sWl T Lw (μ.1 112 58) (μ.1 112 60) (μ1.1 152) a) (nI (T 8 a)) (addR (μ1.1 152) (43 + a) 1) else addR (μ1.1 152) (50 + a) 1 := fun h => by unfold sNA; rw [if_pos h]
      refine b_X12_nightGoes_2 hG hP1 (ix_in ht1.1.2 hv (by decide)) (fun h => absurd h hgt) (fun _ h => ?_) (fun _ _ => c_X12_isHis hG hP1 ht1 ha) (fun _ hth => ?_)
      · rw [hm1.f 59] at h
        exact hstep μ1 mOff.refl (hno (fun z => z.1 h)).symm
      · rw [hm1.f 59] at hth
        rintro r μ1 ⟨rfl, hhis⟩
        refine b_X12_nightGoes_31 hG hP1 (fun _ => c_X12_findsWay hG hP1 ht1 ha hr1) (fun hz => ?_) (fun hz => ?_)
        · have hh : sHis T (μ1.1 152) a := by
            rcases hhis with ⟨-, z⟩ | ⟨z, -⟩
            · exact z
            · exact absurd z hz
          rintro r μ2 ⟨hm2, hc2, -, hw2⟩
          rw [hm1.f 58, hm1.f 60] at hw2
          have hP2 := hm2.gNN hP1
          have hm2' := hm2.mono (C' := mNC) (F' := mNF) (by decide) (by decide)
          have ht2 := txM_off hm2 ⟨by decide, by decide⟩ ht1
          have i50 : (50 : Int32) + nI a = nI (50 + a) := nI_add 50 a
          have c50 : (nI (50 + a)).toNatClampNeg = 50 + a := nI_clamp (by omega)
          refine b_X12_nightGoes_42 (ψ1 := fun μ' => μ' = sI μ2 152 (sGo T (sOw T Lw (μ1.1 152) (μ.1 112 58) (μ.1 112 60) a) a (sWl T Lw (μ.1 112 58) (μ.1 112 60) (μ1.1 152) a) (nI (T 8 a)) (addR (μ2.1 152) (43 + a) 1))) hG hP2 (fun _ => by rw [i50]; exact vp_in_nI (by omega) (by decide)) (fun h0 => ?_) (fun h1 => ?_) (fun h1 => ?_)
          · rw [i50, c50]
            refine hstep _ (hm2'.trans (mOff_wC (by decide) (by decide))) ?_
            rcases hw2 with ⟨z, -⟩ | ⟨-, z⟩
            · rw [z] at h0; exact absurd h0 (by decide)
            · rw [hyes ⟨hth, hh⟩, if_neg (show ¬ sDs T Lw (μ.1 112 58) (μ.1 112 60) (μ1.1 152) a (T 5 a) < INF from z), wI_eq, hm2.c 152]; rfl
          · rcases hw2 with ⟨-, hI, hW⟩ | ⟨z, -⟩
            · have hin := sWl_in hvt (lots := μ.1 112 58) (od := μ.1 112 60) (S := μ1.1 152) (a := a) hI
              refine c_X12_goesHis hG hP2 ht2 ha (W := sWl T Lw (μ.1 112 58) (μ.1 112 60) (μ1.1 152) a) hW hin.1 hin.2 (fun k hk => ?_)
              rw [(hc2 k hk).2, hm1.f 58, hm1.f 60]
            · exact absurd z h1
          · rintro μ3 rfl
            refine b_X12_nightGoes_50 (μ := sI μ2 152 _) hG hP2 ?_
            refine hstep _ (hm2'.trans (mOff_sI (by decide) (by decide))) ?_
            rcases hw2 with ⟨-, hI, hW⟩ | ⟨z, -⟩
            · rw [hyes ⟨hth, hh⟩, if_pos (show sDs T Lw (μ.1 112 58) (μ.1 112 60) (μ1.1 152) a (T 5 a) < INF from hI), sI_eq, hm2.c 152]
            · exact absurd z h1
        · have hh : ¬ sHis T (μ1.1 152) a := by
            rcases hhis with ⟨z, -⟩ | ⟨-, z⟩
            · rw [z] at hz; exact absurd hz (by decide)
            · exact z
          exact hstep μ1 mOff.refl (hno (fun z => hh z.2)).symm
  exact loop 0 (by omega) μ mOff.refl rfl
theorem sNt_65 {T : sT} {Lw : Nat → sLaw} (hv : vT T Lw) {lots od th : Int32} {S : sR} : sNt T Lw lots od th S 65 = S 65 := by
  unfold sNt; rw [addR_ne (by decide), sNs_keep hv (Or.inr (Or.inl rfl)) _ (Nat.le_refl _)]
theorem sNn_65 {T : sT} {Lw : Nat → sLaw} (hv : vT T Lw) {lots od th : Int32} {S : sR} : ∀ n, sNn T Lw lots od th n S 65 = S 65 := by
  intro n
  induction n with
  | zero => rfl
  | succ n ih => unfold sNn; rw [sNt_65 hv, ih]
theorem c_X12_goes (hG : gMM G) {μ : jM} (hP : gNN μ) {v n : Nat} {T : sT} {Lw : Nat → sLaw} (ht : txM μ v T Lw) (hr : rtOK (μ.1 152) (μ.1 112 60)) (hn : n < 2 ^ 31) : jC0 l mX12_goes 8 G [.ref 112, .int (nI n)] μ (pV fun μ' => mOff mNC mNF μ μ' ∧ μ'.1 152 = sNn T Lw (μ.1 112 58) (μ.1 112 60) (μ.1 112 59) n (μ.1 152)) := by
  refine jC0.of' (ls := [.ref 112, .int (nI n), .null]) rfl rfl rfl (fun _ _ => Nat.le_of_ble_eq_true rfl) ?_
  have hvt := ht.2.2.2.2.2
  refine b_X12_goes_0 hG hP ?_
  have loop : ∀ i, i ≤ n → ∀ μ1, mOff mNC mNF μ μ1 → μ1.1 152 = sNn T Lw (μ.1 112 58) (μ.1 112 60) (μ.1 112 59) i (μ.1 152) → J l mX12_goes (jZ0 8 G (pV fun μ' => mOff mNC mNF μ μ' ∧ μ'.1 152 = sNn T Lw (μ.1 112 58) (μ.1 112 60) (μ.1 112 59) n (μ.1 152))) G 0 0 2 [.ref 112, .int (nI n), .int (nI i)] [] μ1 := by
    refine up_loop n ?_ (fun i hi ih => ?_)
    · intro μ1 hm1 hS1
      have hle : nI n ≤ nI n := nI_le (Nat.le_refl _) hn
      exact b_X12_goes_2 (ψ1 := fun _ => True) hG (hm1.gNN hP) (fun _ => ⟨hm1, hS1⟩) (fun h => absurd hle h) (fun h => absurd hle h)
    · intro μ1 hm1 hS1
      have hP1 := hm1.gNN hP
      have ht1 := txM_off hm1 ⟨by decide, by decide⟩ ht
      have hr1 : rtOK (μ1.1 152) (μ1.1 112 60) := by
        rw [hm1.f 60]; unfold rtOK; rw [hS1, sNn_65 hvt]; exact hr
      refine b_X12_goes_2 hG hP1 (fun h => absurd h (nI_ge hi hn)) (fun _ => c_X12_nightGoes hG hP1 ht1 hr1) (fun _ => ?_)
      rintro μ2 ⟨hm2, hS2⟩
      refine b_X12_goes_11 hG (hm2.gNN hP1) ?_
      rw [nI_inc]
      refine ih μ2 (hm1.trans hm2) ?_
      rw [hS2, hS1, hm1.f 58, hm1.f 59, hm1.f 60]; rfl
  exact loop 0 (by omega) μ mOff.refl rfl
end NightM
