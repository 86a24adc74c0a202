/-! NIGHTS hang on WEAR, GATES, RATE and the night alone: rows may differ elsewhere -/
def core (j : Nat) : Prop := j < 12 ∨ j = 64 ∨ j = 65 ∨ j = 67
theorem sGo_sh {T : sT} {ow : Nat → Int32} {a : Nat} {e : Nat → Int32} : ∀ (W : List Nat) (c : Int32) (S S' : sR), (∀ j, S' j = S j + e j) → ∀ j, sGo T ow a W c S' j = sGo T ow a W c S j + e j := by
  intro W
  induction W with
  | nil => intro c S S' h j; exact h j
  | cons k W ih =>
    intro c S S' h j
    unfold sGo
    refine ih _ _ _ (fun j => ?_) j
    rw [sG1_ap, sG1_ap, h j]
    ac_rfl
theorem sNA_go {T : sT} {Lw : Nat → sLaw} {lots od th : Int32} {a : Nat} {S : sR} (h : sTh th a ∧ sHis T S a) (hI : sDs T Lw lots od S a (T 5 a) < INF) : sNA T Lw lots od th a S = sGo T (sOw T Lw S lots od a) a (sWl T Lw lots od S a) (nI (T 8 a)) (addR S (43 + a) 1) := (if_pos h).trans (if_pos hI)
theorem sNA_st {T : sT} {Lw : Nat → sLaw} {lots od th : Int32} {a : Nat} {S : sR} (h : sTh th a ∧ sHis T S a) (hI : ¬ sDs T Lw lots od S a (T 5 a) < INF) : sNA T Lw lots od th a S = addR S (50 + a) 1 := (if_pos h).trans (if_neg hI)
theorem sNA_no {T : sT} {Lw : Nat → sLaw} {lots od th : Int32} {a : Nat} {S : sR} (h : ¬ (sTh th a ∧ sHis T S a)) : sNA T Lw lots od th a S = S := if_neg h
theorem addR_sh {S S' : sR} {e : Nat → Int32} (h : ∀ j, S' j = S j + e j) (i : Nat) (x : Int32) (j : Nat) : addR S' i x j = addR S i x j + e j := by
  rw [addR_ap, addR_ap, h j, Int32.add_assoc, Int32.add_assoc, Int32.add_comm (e j)]
theorem sGo_ow {T : sT} {ow ow' : Nat → Int32} {a : Nat} : ∀ (W : List Nat) (c : Int32) (R : sR), (∀ k ∈ W, ow' k = ow k) → sGo T ow' a W c R = sGo T ow a W c R := by
  intro W
  induction W with
  | nil => intro c R _; rfl
  | cons k W ih =>
    intro c R hW
    unfold sGo
    have : sPay ow' k c = sPay ow k c := by unfold sPay; rw [hW k List.mem_cons_self]
    rw [this]
    exact ih _ _ (fun j hj => hW j (List.mem_cons_of_mem _ hj))
theorem sNA_sh {T : sT} {Lw : Nat → sLaw} (hv : vT T Lw) {lots od th : Int32} {a : Nat} {S S' : sR} {e : Nat → Int32} (h : ∀ j, S' j = S j + e j) (he : ∀ j, core j → e j = 0) (j : Nat) : sNA T Lw lots od th a S' j = sNA T Lw lots od th a S j + e j := by
  have h12 := hv.1.2.1
  have ce : ∀ j, core j → S' j = S j := fun j hj => by rw [h j, he j hj, Int32.add_zero]
  have u64 := ce 64 (Or.inr (Or.inl rfl))
  have u65 := ce 65 (Or.inr (Or.inr (Or.inl rfl)))
  have u67 := ce 67 (Or.inr (Or.inr (Or.inr rfl)))
  have hpr : ∀ k, k < T 0 1 → sPr T Lw S' lots od a k = sPr T Lw S lots od a k ∧ sOw T Lw S' lots od a k = sOw T Lw S lots od a k := fun k hk => by
    have uk := ce k (Or.inl (by omega))
    exact prow_congr (sDn_congr u67 uk) (by unfold sGt; rw [u64]) (fun _ => sOwes_congr u65 u67 uk) (fun _ => sFears_congr u65 u67 uk)
  have hDs : sDs T Lw lots od S' a = sDs T Lw lots od S a := sD_congr (fun k hk => (hpr k hk).1)
  have hWl : sWl T Lw lots od S' a = sWl T Lw lots od S a := by unfold sWl; rw [hDs]; exact sWy_congr (fun k hk => (hpr k hk).1) 8 _
  have hhis : sHis T S' a ↔ sHis T S a := by unfold sHis; rw [u67]
  by_cases hc : sTh th a ∧ sHis T S a
  · have hc' : sTh th a ∧ sHis T S' a := ⟨hc.1, hhis.mpr hc.2⟩
    by_cases hI : sDs T Lw lots od S a (T 5 a) < INF
    · have hI' : sDs T Lw lots od S' a (T 5 a) < INF := by rw [hDs]; exact hI
      rw [sNA_go hc hI, sNA_go hc' hI', hWl, sGo_ow (ow := sOw T Lw S lots od a) _ _ _ (fun k hk => (hpr k ((sWl_in hv hI).2 k hk)).2)]
      exact sGo_sh _ _ _ _ (addR_sh h _ _) j
    · have hI' : ¬ sDs T Lw lots od S' a (T 5 a) < INF := by rw [hDs]; exact hI
      rw [sNA_st hc hI, sNA_st hc' hI']; exact addR_sh h _ _ j
  · have hc' : ¬ (sTh th a ∧ sHis T S' a) := fun z => hc ⟨z.1, hhis.mp z.2⟩
    rw [sNA_no hc, sNA_no hc']; exact h j
theorem sNs_sh {T : sT} {Lw : Nat → sLaw} (hv : vT T Lw) {lots od th : Int32} {S S' : sR} {e : Nat → Int32} (h : ∀ j, S' j = S j + e j) (he : ∀ j, core j → e j = 0) : ∀ n j, sNs T Lw lots od th n S' j = sNs T Lw lots od th n S j + e j := by
  intro n
  induction n with
  | zero => exact h
  | succ n ih => intro j; unfold sNs; exact sNA_sh hv ih he j
theorem sNt_sh {T : sT} {Lw : Nat → sLaw} (hv : vT T Lw) {lots od th : Int32} {S S' : sR} {e : Nat → Int32} (h : ∀ j, S' j = S j + e j) (he : ∀ j, core j → e j = 0) : ∀ j, sNt T Lw lots od th S' j = sNt T Lw lots od th S j + e j := by
  intro j
  unfold sNt
  rw [addR_ap, addR_ap, sNs_sh hv h he]
  ac_rfl
theorem sNn_sh {T : sT} {Lw : Nat → sLaw} (hv : vT T Lw) {lots od th : Int32} {S S' : sR} {e : Nat → Int32} (h : ∀ j, S' j = S j + e j) (he : ∀ j, core j → e j = 0) : ∀ n j, sNn T Lw lots od th n S' j = sNn T Lw lots od th n S j + e j := by
  intro n
  induction n with
  | zero => exact h
  | succ n ih => intro j; unfold sNn; exact sNt_sh hv ih he j
theorem sNn_add {T : sT} {Lw : Nat → sLaw} {lots od th : Int32} {S : sR} (m : Nat) : ∀ n, sNn T Lw lots od th n (sNn T Lw lots od th m S) = sNn T Lw lots od th (m + n) S := by
  intro n
  induction n with
  | zero => rfl
  | succ n ih => show sNt _ _ _ _ _ (sNn T Lw lots od th n _) = sNt _ _ _ _ _ (sNn T Lw lots od th (m + n) S); rw [ih]
theorem rg_bg {T : sT} : rgS (sBg T) 0 := ⟨⟨0, Nat.le_refl _, by unfold sBg; rw [upd_ne (by decide), upd_ne (by decide)]; rfl⟩, fun k hk => ⟨0, by omega, by unfold sBg; rw [upd_ne (by omega), upd_ne (by omega)]; rfl⟩⟩
theorem rg_sd {T : sT} {Lw : Nat → sLaw} (hv : vT T Lw) {s n : Nat} : rgS (sdW T Lw s n) n := by
  have := rgS_n hv (lots := nI (T 0 7)) (od := -1) (th := nI s) (rg_bg (T := T)) n
  rw [Nat.zero_add] at this; exact this
/-- SEEN, if what one is SEEN changes -/
theorem se_ne {T : sT} {Lw : Nat → sLaw} (hv : vT T Lw) {s n k : Nat} (hk : k < 12) (hn : n ≤ 60) : seB T Lw s n k = true ↔ ¬ sdW T Lw s (n + 1) (12 + k) = sdW T Lw s n (12 + k) := by
  unfold seB
  rw [decide_eq_true_iff]
  obtain ⟨w, hw, ew⟩ := (rg_sd hv (T := T) (Lw := Lw) (s := s) (n := n)).2 (12 + k) (by omega)
  obtain ⟨c, d, hd⟩ := (sNn_grow hv (lots := nI (T 0 7)) (od := -1) (th := nI s) (S := sdW T Lw s n) 1).2.2.2.2.1
  obtain ⟨-, hd1, -, hd2⟩ := hd k hk
  have e1 : sdW T Lw s (n + 1) (12 + k) = nI (w + d k) := hd2 w ew
  rw [e1, ew, i32_lt, nI_toInt (by omega), nI_toInt (by omega), nI_eq (by omega) (by omega)]
  omega
section DreamC
variable {l : Launch} {G : jG}
/-- the nights that a question wants are known -/
def knC (G : jG) (μ : jM) (T : sT) (Lw : Nat → sLaw) (so m : Nat) : Prop := μ.2.2 63 7 = some so ∧ G[so]? = some (0, 3968) ∧ m ≤ 31 ∧ ∀ n, n < m → ∀ s, s < 2 ^ T 0 2 → ∀ k, k < T 0 1 → (bt (μ.1 so (128 * n + s)) k = true ↔ seB T Lw s n k = true)
theorem dc_at {μ : jM} {D : List (Nat × Nat × Nat)} (h : dreamC μ D) {i : Nat} (hi : i < D.length) : ∃ d, D[i]? = some d ∧ d ∈ D ∧ μ.1 66 i = nI d.1 ∧ μ.1 67 i = nI d.2.1 ∧ μ.1 68 i = nI d.2.2 := ⟨D[i], List.getElem?_eq_getElem hi, List.getElem_mem hi, h.2.2 i _ (List.getElem?_eq_getElem hi)⟩
theorem c_X0_mayBe (hG : gGG G) {μ : jM} (hP : gPP μ) {T : sT} {Lw : Nat → sLaw} {D : List (Nat × Nat × Nat)} {c m s so : Nat} (hd : dreamC μ D) (hc : c ≤ D.length) (hok : ∀ d ∈ D, d.1 < T 0 1 ∧ d.2.1 ≤ 30 ∧ d.2.2 ≤ 1) (h12 : T 0 1 ≤ 12) (h7 : T 0 2 ≤ 7) (hlast : ∀ i, i < c → ∀ d, D[i]? = some d → d.2.1 < m) (hkn : knC G μ T Lw so m) (hs : s < 2 ^ T 0 2) : jC0 l mX0_mayBe 0 G [.ref 63, .int (nI s), .int (nI c)] μ (pI fun z μ' => μ' = μ ∧ ((z = 1 ∧ soP T Lw D c s) ∨ (z = 0 ∧ ¬ soP T Lw D c s))) := by
  refine jC0.of' (ls := [.ref 63, .int (nI s), .int (nI c), .null]) rfl rfl rfl (fun _ _ => Nat.le_of_ble_eq_true rfl) ?_
  have h20 := hd.2.1
  have h128 : 2 ^ T 0 2 ≤ 2 ^ 7 := Nat.pow_le_pow_right (by decide) h7
  obtain ⟨k7, kg, k31, kb⟩ := hkn
  refine b_X0_mayBe_0 hG hP ?_
  have loop : ∀ i, i ≤ c → (∀ j, j < i → ∀ d, D[j]? = some d → b01 (seB T Lw s d.2.1 d.1) = nI d.2.2) → J l mX0_mayBe (jZ0 0 G (pI fun z μ' => μ' = μ ∧ ((z = 1 ∧ soP T Lw D c s) ∨ (z = 0 ∧ ¬ soP T Lw D c s)))) G 0 0 2 [.ref 63, .int (nI s), .int (nI c), .int (nI i)] [] μ := by
    refine up_loop c ?_ (fun i hi ih => ?_)
    · intro hall
      have hle : nI c ≤ nI c := nI_le (Nat.le_refl _) (by omega)
      exact b_X0_mayBe_2 hG hP kg k7 (fun _ => ⟨rfl, Or.inl ⟨rfl, hall⟩⟩) (fun h => absurd hle h) (fun h => absurd hle h) (fun h => absurd hle h) (fun h => absurd hle h)
    · intro hall
      obtain ⟨d, hdi, hdm, e1, e2, e3⟩ := dc_at hd (show i < D.length by omega)
      have ci : (nI i).toNatClampNeg = i := nI_clamp (by omega)
      obtain ⟨d1, d2, d3⟩ := hok d hdm
      have ex : ((μ.1 67 (nI i).toNatClampNeg) * 128) + nI s = nI (128 * d.2.1 + s) := by rw [ci, e2, show (128 : Int32) = nI 128 from rfl, pk_mul, nI_add, Nat.mul_comm]
      have cx : (((μ.1 67 (nI i).toNatClampNeg) * 128) + nI s).toNatClampNeg = 128 * d.2.1 + s := by rw [ex]; exact nI_clamp (by omega)
      have hbit := kb d.2.1 (hlast i hi d hdi) s hs d.1 d1
      have hval : ((μ.1 so (128 * d.2.1 + s)) >>> (nI d.1 &&& 31)) &&& 1 = b01 (seB T Lw s d.2.1 d.1) := by
        rw [sh1 (by omega)]
        unfold b01
        by_cases hb : seB T Lw s d.2.1 d.1 = true
        · rw [if_pos (hbit.mpr hb), if_pos hb]
        · rw [if_neg (fun z => hb (hbit.mp z)), if_neg hb]
      refine b_X0_mayBe_2 hG hP kg k7 (fun h => absurd h (nI_ge hi (by omega))) (fun _ => vp_in_nI (by omega) (by decide)) (fun _ => by rw [ex]; exact vp_in_nI (by omega) (by decide)) (fun _ h => ?_) (fun _ h => ⟨rfl, Or.inr ⟨rfl, fun z => h ?_⟩⟩)
      · rw [cx, ci, e1, hval, e3] at h
        rw [nI_inc]
        refine ih (fun j hj q hq => ?_)
        by_cases e : j = i
        · rw [e, hdi] at hq
          cases hq; exact h
        · exact hall j (by omega) q hq
      · rw [cx, ci, e1, hval, e3]; exact z i hi d hdi
  exact loop 0 (Nat.zero_le _) (fun j hj => by omega)
theorem c_X0_pickSet (hG : gGG G) {μ : jM} (hP : gPP μ) {t : Nat} {T : sT} {Lw : Nat → sLaw} {D : List (Nat × Nat × Nat)} {c m so : Nat} (ht : tO gTold pTold G μ t) (q0 : μ.2.2 12 0 = some t) (hx : txC μ t T Lw) (hd : dreamC μ D) (hc : c ≤ D.length) (hok : ∀ d ∈ D, d.1 < T 0 1 ∧ d.2.1 ≤ 30 ∧ d.2.2 ≤ 1) (hlast : ∀ i, i < c → ∀ d, D[i]? = some d → d.2.1 < m) (hkn : knC G μ T Lw so m) (y : Int32) : jC0 l mX0_pickSet 1 G [.ref 63, .int (nI c), .int y] μ (pI fun z μ' => μ' = μ ∧ z = pkF (soP T Lw D c) (fun s => nI s) y (2 ^ T 0 2) 0 0) := by
  refine jC0.of' (ls := [.ref 63, .int (nI c), .int y, .null, .null, .null]) rfl rfl rfl (fun _ _ => Nat.le_of_ble_eq_true rfl) ?_
  have hv := hx.2.2.2.2.2
  have h12 := hv.1.2.1
  have h7 := hv.1.2.2.1
  have hpw := pow_le (T 0 2) (by omega)
  refine b_X0_pickSet_0 hG hP ht q0 ?_
  rw [hx.2.1.2.2.1, pow_sh _ (by omega)]
  have loop : ∀ (q s : Nat) (f : Int32), s + q = 2 ^ T 0 2 → J l mX0_pickSet (jZ0 1 G (pI fun z μ' => μ' = μ ∧ z = pkF (soP T Lw D c) (fun s => nI s) y q s f)) G 0 0 19 [.ref 63, .int (nI c), .int y, .int f, .int (nI (2 ^ T 0 2)), .int (nI s)] [] μ := by
    intro q
    induction q with
    | zero =>
      intro s f hs
      have hle : nI (2 ^ T 0 2) ≤ nI s := nI_le (by omega) (by omega)
      refine b_X0_pickSet_19 (ψ2 := fun _ _ => True) hG hP (fun _ h => ⟨rfl, ?_⟩) (fun _ h => ⟨rfl, ?_⟩) (fun h => absurd hle h) (fun h => absurd hle h)
      · show -1 = if y = -1 then f else -1; rw [if_neg h]
      · show f = if y = -1 then f else -1; rw [if_pos h]
    | succ q ih =>
      intro s f hs
      have hgt : ¬ nI (2 ^ T 0 2) ≤ nI s := nI_ge (by omega) (by omega)
      refine b_X0_pickSet_19 hG hP (fun h => absurd h hgt) (fun h => absurd h hgt) (fun _ => c_X0_mayBe hG hP hd hc hok h12 h7 hlast hkn (by omega)) (fun _ => ?_)
      rintro z μ' ⟨rfl, ⟨rfl, hR⟩ | ⟨rfl, hR⟩⟩
      · rw [pkF_yes hR]
        refine b_X0_pickSet_33 hG hP (fun h => absurd h (by decide)) (fun _ h => ?_) (fun _ h => ⟨rfl, ?_⟩)
        · rw [if_neg h, nI_inc]; exact ih (s + 1) (f + 1) (by omega)
        · rw [if_pos h]
      · rw [pkF_no hR]
        refine b_X0_pickSet_33 hG hP (fun _ => ?_) (fun h => absurd rfl h) (fun h => absurd rfl h)
        rw [nI_inc]; exact ih (s + 1) f (by omega)
  exact loop (2 ^ T 0 2) 0 0 (by omega)
end DreamC
