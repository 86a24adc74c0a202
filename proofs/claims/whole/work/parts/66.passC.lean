/-! THE CLASS: a night passes -/
theorem sDn_congr {T : sT} {Lw : Nat → sLaw} {S S' : sR} {k : Nat} (h67 : S' 67 = S 67) (hk : S' k = S k) : sDn T Lw S' k ↔ sDn T Lw S k := by unfold sDn; rw [sBears_congr h67, hk]
theorem prE_congr {μ μ' : jM} {y a k : Nat} {T : sT} {Lw : Nat → sLaw} {S S' : sR} {od lots : Int32} (h1 : μ'.1 (y + 1) = μ.1 (y + 1)) (h2 : μ'.1 (y + 2) = μ.1 (y + 2)) (hd : sDn T Lw S' k ↔ sDn T Lw S k) (hg : sGt S' k ↔ sGt S k) (ho : sGt S k → sOwes T Lw S' lots od a k = sOwes T Lw S lots od a k) (hf : T 4 k = 1 → sFears T Lw S' lots od a k = sFears T Lw S lots od a k) (h : prE μ y T Lw S od lots a k) : prE μ' y T Lw S' od lots a k := by
  obtain ⟨p1, p2⟩ := prow_congr hd hg ho hf
  unfold prE at h ⊢
  rw [h1, h2, p1, p2, hd]; exact h
/-- a row changes where nothing looks -/
theorem enS_row {G : jG} {μ μ' : jM} {t r B : Nat} {T : sT} {Lw : Nat → sLaw} {S S' : sR} {od lots th : Int32} (hS : enS G μ t r T Lw S od lots th B) (hc : ∀ j, j < 24 ∨ j = 64 ∨ j = 65 ∨ j = 67 → S' j = S j) (ho : cOff (fun c => c = r) (fun _ => False) μ μ') (hr' : μ'.1 r = cRow S' od lots th) : enS G μ' t r T Lw S' od lots th B := by
  obtain ⟨⟨hW, hr, ⟨hg, hB, hrt⟩, hn, hb⟩, hD, hWs⟩ := hS
  have ht2 := hW.2.2.2.2.2.1.1
  have hr3 := hW.2.2.2.1
  have hv := hW.2.2.2.2.2.1.2.2.2.2.2
  have h12 := hv.1.2.1
  have h7 := hv.1.2.2.1
  have hk := kcI_low ho ht2 (fun c hc => by omega) (fun c hc => hc.elim) hW.2.2.2.2.2.2
  have hW' : wdC G μ' t r T Lw := wdC_off ho hk (fun c hc => by omega) (fun c hc => hc.elim) hW
  have u64 := hc 64 (by omega)
  have u65 := hc 65 (by omega)
  have u67 := hc 67 (by omega)
  have e12 : μ'.1 12 = μ.1 12 := ho.2.1 12 (by omega)
  have eL : μ'.2.1 12 = μ.2.1 12 := ho.2.2 12 (fun z => z)
  refine ⟨⟨hW', hr', ⟨⟨by rw [u67]; exact hg.1, fun k hk => by rw [hc k (by omega)]; exact hg.2 k hk⟩, hB, by unfold rtS; rw [u65]; exact hrt⟩, ?_, ?_⟩, ?_, fun a ha => ?_⟩
  · refine nkS_off (μ := μ) (by rw [e12]) (by rw [eL]) ?_
    obtain ⟨n, f, g1, g2, g3, g4, g5⟩ := hn
    exact ⟨n, f, by rw [u67]; exact g1, g2, g3, by unfold sFg; rw [u67]; exact g4, g5⟩
  · refine brS_off (μ := μ) (ho.2.1 14 (by omega)) (by rw [eL]) ?_
    obtain ⟨g0, n, f, g1, g2, g3, g4⟩ := hb
    exact ⟨fun k hk => by rw [sBears_congr u67]; exact g0 k hk, n, f, by rw [u67]; exact g1, g2, g3, g4⟩
  · intro i hi
    rw [e12, hD i hi]
    constructor
    · rintro ⟨z1, z2⟩; exact ⟨z1, (sDn_congr u67 (hc i (by omega))).mpr z2⟩
    · rintro ⟨z1, z2⟩; exact ⟨z1, (sDn_congr u67 (hc i (by omega))).mp z2⟩
  · have c1 : ∀ i, i ≤ 4 → μ'.1 (17 + 5 * a + i) = μ.1 (17 + 5 * a + i) := fun i hi => ho.2.1 _ (by omega)
    have c0 := c1 0 (by decide)
    rw [Nat.add_zero] at c0
    refine ⟨wyK_mem (c1 1 (by decide)) (c1 3 (by decide)) (by rw [c0]) (by rw [c0]) (by rw [c0]) (by rw [c0]) (hWs a ha).1, fun k hk hbt => ?_⟩
    rw [c0] at hbt
    exact prE_congr (c1 1 (by decide)) (c1 2 (by decide)) (sDn_congr u67 (hc k (by omega))) (by unfold sGt; rw [u64]) (fun _ => sOwes_congr u65 u67 (hc k (by omega))) (fun _ => sFears_congr u65 u67 (hc k (by omega))) ((hWs a ha).2 k hk hbt)
theorem enS.mono {G : jG} {μ : jM} {t r B B' : Nat} {T : sT} {Lw : Nat → sLaw} {S : sR} {od lots th : Int32} (h : enS G μ t r T Lw S od lots th B) (hb : B ≤ B') (hB : B' ≤ BB) : enS G μ t r T Lw S od lots th B' := by
  obtain ⟨⟨hW, hr, ⟨hg, -, hrt⟩, hn, hb'⟩, hD, hWs⟩ := h
  exact ⟨⟨hW, hr, ⟨hg.mono hb, hB, hrt⟩, hn, hb'⟩, hD, hWs⟩
/-- the next night, by its key -/
theorem law_nf {T : sT} {Lw : Nat → sLaw} {S S' : sR} {lots od : Int32} {q a k n f n' f' B : Nat} (hv : vT T Lw) (hq : q < 2) (hg : rgS S B) (hB : B ≤ BB) (hk : k < 12) (hrt : rtS S od) (h65 : S' 65 = S 65) (hkk : S' k = S k) (hn : S 67 = nI n) (hf : sFg T S lots = nI f) (hn' : S' 67 = nI n') (hf' : sFg T S' lots = nI f') (r1 : n < 2 ^ 30) (r2 : f < 2) (r3 : n' < 2 ^ 30) (r4 : f' < 2) (h : (lN (n * 2 ^ 32 + f * 2 ^ 28) ^^^ lN (n' * 2 ^ 32 + f' * 2 ^ 28)) &&& mkL q (Lw q) = 0) : lawV (vrA T S' lots od a k) (Lw q) 99 = lawV (vrA T S lots od a k) (Lw q) 99 := by
  have h1 := xor_and h
  rw [← ky00, ← ky00] at h1
  obtain ⟨g3, -, -, g8⟩ := key_inj (r1 := 0) (w1 := 0) (r2 := 0) (w2 := 0) ⟨r1, r2, by decide, by decide⟩ ⟨r3, r4, by decide, by decide⟩ h1
  obtain ⟨r, hr, -, e1⟩ := rtS_k hrt k
  obtain ⟨w, hw, e2⟩ := hg.2 k (by omega)
  have e1' : sRt S' od k = nI r := by rw [← e1]; unfold sRt; rw [h65]
  rw [← lawN_A (T := T) (Lw := Lw) (a := a) hq (hv.2.2.2 q) hn' hf' e1' (by rw [hkk]; exact e2), ← lawN_A (T := T) (Lw := Lw) (a := a) hq (hv.2.2.2 q) hn hf e1 e2]
  exact (lawN_uses g3 (fun _ => rfl) (fun _ => rfl) g8).symm
theorem law_nb {T : sT} {Lw : Nat → sLaw} {S S' : sR} {k n f n' f' : Nat} (hv : vT T Lw) (hn : S 67 = nI n) (hn' : S' 67 = nI n') (r1 : n < 2 ^ 30) (r2 : f < 2) (r3 : n' < 2 ^ 30) (r4 : f' < 2) (h : lN (n * 2 ^ 32 + f * 2 ^ 28) &&& mkL 2 (Lw 2) = lN (n' * 2 ^ 32 + f' * 2 ^ 28) &&& mkL 2 (Lw 2)) : sBears T Lw S' k = sBears T Lw S k := by
  rw [← ky00, ← ky00] at h
  rw [← lawN_B (a := 0) (f := f') (r := 0) (w := 0) (hv.2.2.2 2) hn', ← lawN_B (a := 0) (f := f) (r := 0) (w := 0) (hv.2.2.2 2) hn]
  exact (lawN_key ⟨r1, r2, by decide, by decide⟩ ⟨r3, r4, by decide, by decide⟩ h).symm
/-- what one GHOST's night adds -/
theorem sNA_add {T : sT} {Lw : Nat → sLaw} (hv : vT T Lw) {lots od th : Int32} {a : Nat} {S : sR} (ha : a < T 0 2) : ∃ c d : Nat → Nat, ∀ i, i < 12 → c i ≤ 8 ∧ d i ≤ 8 ∧ (∀ w, S i = nI w → sNA T Lw lots od th a S i = nI (w + c i)) ∧ ∀ w, S (12 + i) = nI w → sNA T Lw lots od th a S (12 + i) = nI (w + d i) := by
  have h7 := hv.1.2.2.1
  have h12 := hv.1.2.1
  unfold sNA
  split
  · split
    · next h =>
      obtain ⟨h8, hin⟩ := sWl_in hv h
      refine ⟨cnt (sWl T Lw lots od S a), cntS T (sWl T Lw lots od S a), fun i hi => ⟨Nat.le_trans (cnt_le _ _) h8, Nat.le_trans (cntS_le _ _ _) h8, fun w hw => ?_, fun w hw => ?_⟩⟩
      · exact sGo_w (by omega) hi _ _ _ w (by rw [addR_ne (by omega)]; exact hw)
      · exact sGo_s (by omega) hi _ _ _ w (fun k hk => by have := hin k hk; omega) (by rw [addR_ne (by omega)]; exact hw)
    · refine ⟨fun _ => 0, fun _ => 0, fun i hi => ⟨Nat.zero_le _, Nat.zero_le _, fun w hw => ?_, fun w hw => ?_⟩⟩
      · rw [addR_ne (by omega)]; exact hw
      · rw [addR_ne (by omega)]; exact hw
  · exact ⟨fun _ => 0, fun _ => 0, fun i hi => ⟨Nat.zero_le _, Nat.zero_le _, fun w hw => hw, fun w hw => hw⟩⟩
section PassC
variable {l : Launch} {G : jG}
theorem c_X8_isNightOf (hG : gGG G) {μ : jM} (hP : gPP μ) {t a : Nat} {T : sT} {Lw : Nat → sLaw} {S : sR} (ht : tO gTold pTold G μ t) (hx : txC μ t T Lw) (ha : a < T 0 2) {night : Int32} (hn : night = S 67) :
    jC0 l mX8_isNightOf 0 G [.ref t, .int (nI a), .int night] μ (pI fun x μ' => μ' = μ ∧ ((x = 1 ∧ sHis T S a) ∨ (x = 0 ∧ ¬ sHis T S a))) := by
  refine jC0.of' (ls := [.ref t, .int (nI a), .int night, .null]) rfl rfl rfl (fun _ _ => Nat.le_of_ble_eq_true rfl) ?_
  have hv := hx.2.2.2.2.2
  have h7 := hv.1.2.2.1
  have h9 := (hv.2.2.1 a ha).2.2.2.2.2
  have ca : (nI a).toNatClampNeg = a := nI_clamp (by omega)
  have g9 : μ.1 (t + 8) (nI a).toNatClampNeg = nI (T 9 a) := by rw [ca]; exact (hx.2.2.2.1 a ha).2.2.2.2
  have hpos : ¬ μ.1 (t + 8) (nI a).toNatClampNeg ≤ 0 := by rw [g9]; exact nI_nle (by omega) (by omega)
  refine b_X8_isNightOf_0 hG hP ht (vp_in_nI (by omega) (by decide)) (fun h => absurd h hpos) (fun _ => by rw [g9]; exact nI_ne0 (by omega) (by omega)) (fun _ h => ⟨rfl, Or.inr ⟨rfl, ?_⟩⟩) (fun _ h => ⟨rfl, Or.inl ⟨rfl, ?_⟩⟩)
  · rw [g9, hn] at h; exact h
  · rw [g9, hn] at h; exact h
/-- the cells that a night's passing writes -/
def pnI (t r n c : Nat) : Prop := c = 12 ∨ c = 14 ∨ c = r ∨ scI t c ∨ (17 ≤ c ∧ c ≤ 51)
set_option maxHeartbeats 2000000 in
theorem c_X10_passNight (hG : gGG G) {μ : jM} (hP : gPP μ) {t r B : Nat} {T : sT} {Lw : Nat → sLaw} {S : sR} {od lots th : Int32} (hS : enS G μ t r T Lw S od lots th B) (hB1 : B + 1 ≤ BB) :
    jC0 l mX10_passNight 4 G [.ref 12] μ (pV fun μ' => enS G μ' t r T Lw (sNt T Lw lots od th S) od lots th (B + 1) ∧ cOff (pnI t r (T 0 2)) (lnL t) μ μ' ∧ (∀ f, f ≠ 1 → f ≠ 2 → f ≠ 4 → μ'.1 12 f = μ.1 12 f) ∧ ∀ i, i < 12 → (bt (μ'.1 12 2) i = true ↔ ¬ sNt T Lw lots od th S (12 + i) = S (12 + i))) := by
  refine jC0.of' (ls := [.ref 12, .null, .null, .null]) rfl rfl rfl (fun _ _ => Nat.le_of_ble_eq_true rfl) ?_
  obtain ⟨hA, hD, hWs⟩ := id hS
  obtain ⟨hW, hr, ⟨hg, hB, hrt⟩, hn, hb⟩ := id hA
  obtain ⟨ht, q0, q5, hr3, hgr, hx, hkc⟩ := id hW
  have hv := hx.2.2.2.2.2
  have h12 := hv.1.2.1
  have h7 := hv.1.2.2.1
  have ht2 := hx.1
  obtain ⟨n0, hn0B, hn0⟩ := hg.1
  have hB18 : B + 1 ≤ 2 ^ 18 := hB1
  obtain ⟨φ, hφ⟩ : ∃ φ : jM → Prop, φ = fun μ' => enS G μ' t r T Lw (sNt T Lw lots od th S) od lots th (B + 1) ∧ cOff (pnI t r (T 0 2)) (lnL t) μ μ' ∧ (∀ f, f ≠ 1 → f ≠ 2 → f ≠ 4 → μ'.1 12 f = μ.1 12 f) ∧ ∀ i, i < 12 → (bt (μ'.1 12 2) i = true ↔ ¬ sNt T Lw lots od th S (12 + i) = S (12 + i)) := ⟨_, rfl⟩
  rw [← hφ]
  refine b_X10_passNight_0 hG hP hgr q5 ?_
  have r0 : (wI μ 12 2 0).1 r 0 = S 67 := by rw [wI_ne (by omega), hr]; rfl
  have r6 : (wI μ 12 2 0).1 r 6 = th := by rw [wI_ne (by omega), hr]; rfl
  rw [r0, r6]
  -- the rows' counts
  have loop : ∀ j, j ≤ T 0 2 → ∀ (Sj : sR) (c d : Nat → Nat) (μ1 : jM), Sj = sNs T Lw lots od th j S → (∀ i, i < 12 → c i ≤ 56 * B + 8 * j ∧ d i ≤ 8 * j ∧ Sj i = nI (c i) ∧ ∃ s, s ≤ 56 * B ∧ S (12 + i) = nI s ∧ Sj (12 + i) = nI (s + d i)) → enS G μ1 t r T Lw Sj od lots th (B + 1) → cOff (pnI t r (T 0 2)) (lnL t) μ μ1 → (∀ f, f ≠ 1 → f ≠ 2 → f ≠ 4 → μ1.1 12 f = μ.1 12 f) → (∀ i, i < 12 → (bt (μ1.1 12 2) i = true ↔ 0 < d i)) →
      J l mX10_passNight (jZ0 4 G (pV φ)) G 0 0 22 [.ref 12, .int (S 67), .int th, .int (nI j)] [] μ1 := by
    refine up_loop (T 0 2) ?_ (fun j hj ih => ?_)
    · intro Sj c d μ1 hSj hcd hS1 ho1 hf1 hs1
      obtain ⟨hA1, hD1, hWs1⟩ := id hS1
      obtain ⟨hW1, hr1, ⟨hg1, hBB1, hrt1⟩, hn1, hb1⟩ := id hA1
      have hx1 := hW1.2.2.2.2.2.1
      have hP1 := ho1.gPP hP
      have hle : μ1.1 t 2 ≤ nI (T 0 2) := by rw [hx1.2.1.2.2.1]; exact nI_le (Nat.le_refl _) (by omega)
      have k67 : Sj 67 = S 67 := by rw [hSj]; exact sNs_keep hv (by omega) _ (Nat.le_refl _)
      obtain ⟨S', hS'⟩ : ∃ S', S' = sNt T Lw lots od th S := ⟨_, rfl⟩
      have hS'' : S' = addR Sj 67 1 := by rw [hS', hSj]; rfl
      have u67 : S' 67 = nI (n0 + 1) := by rw [hS'', addR_ap, if_pos rfl, k67, hn0, nI_inc]
      have uo : ∀ q, q ≠ 67 → S' q = Sj q := fun q hq => by rw [hS'']; exact addR_ne hq
      have hoM : cOff (fun c => c = r) (fun _ => False) μ1 (wI μ1 r 0 (S 67 + 1)) := cOff_wI rfl
      have hkM := kcI_low hoM ht2 (fun c hc => by omega) (fun c hc => hc.elim) hW1.2.2.2.2.2.2
      have hWM : wdC G (wI μ1 r 0 (S 67 + 1)) t r T Lw := wdC_off hoM hkM (fun c hc => by omega) (fun c hc => hc.elim) hW1
      have hrM : (wI μ1 r 0 (S 67 + 1)).1 r = cRow S' od lots th := by
        rw [wI_eq, hr1, hS'', cRow_add (by decide)]
        show _ = addR (cRow Sj od lots th) 0 1
        unfold addR
        rw [show cRow Sj od lots th 0 = Sj 67 from rfl, k67]
      have hgM : rgS S' (B + 1) := ⟨⟨n0 + 1, by omega, u67⟩, fun k hk => by rw [uo k (by omega)]; exact hg1.2 k hk⟩
      have hrtM : rtS S' od := by unfold rtS; rw [uo 65 (by decide)]; exact hrt1
      have hbM : brP (wI μ1 r 0 (S 67 + 1)) T Lw := by
        have := brS_P hv hb1
        unfold brP at this ⊢
        rw [wI_ne (by omega)]; exact this
      refine b_X10_passNight_22 (ψ2 := fun _ _ => True) hG hP1 hgr hW1.1 hW1.2.1 hW1.2.2.1 (fun _ => c_X10_lookAtNight (μ := wI μ1 r 0 (S 67 + 1)) hG (hoM.gPP hP1) hWM hrM hgM hB1 hrtM hbM) (fun _ => ?_) (fun h => absurd hle h) (fun h => absurd hle h) (fun h => absurd hle h)
      rintro μ2 ⟨ho2, hA2, hf2, D, n, f, e1, e2, e3, e4, hw2, hk2, hbr2⟩
      refine b_X10_passNight_101 hG (ho2.gPP (hoM.gPP hP1)) ?_
      have hnn : n = n0 + 1 := by rw [u67] at e1; exact ((nI_eq (by omega) (by omega)).mp e1).symm
      obtain ⟨n1, f1, g1, g2, g3, g4, g5⟩ := hn1
      have key1 : (wI μ1 r 0 (S 67 + 1)).2.1 12 6 = lN (n1 * 2 ^ 32 + f1 * 2 ^ 28) := g5.1
      have nr : (12 : Nat) ≠ r := by omega
      have m12 : (wI μ1 r 0 (S 67 + 1)).1 12 = μ1.1 12 := wI_ne nr
      have hDn : dnI μ2 T Lw S' := by
        rcases hbr2 with ⟨h1, h2⟩ | h
        · obtain ⟨b0, n2, f2, b1, b2, b3, b4⟩ := hb1
          have h2' : lN (n2 * 2 ^ 32 + f2 * 2 ^ 28) &&& mkL 2 (Lw 2) = lN (n * 2 ^ 32 + f * 2 ^ 28) &&& mkL 2 (Lw 2) := by rw [← b4]; exact h2
          intro i hi
          rw [h1, m12, hD1 i hi]
          have : ∀ k, sBears T Lw S' k = sBears T Lw Sj k := fun k => law_nb hv b1 e1 b2 b3 e2 e3 h2'
          have hh : i < T 0 1 → (sDn T Lw Sj i ↔ sDn T Lw S' i) := fun z => by unfold sDn; rw [this, uo i (by omega)]
          constructor
          · rintro ⟨z1, z2⟩; exact ⟨z1, (hh z1).mp z2⟩
          · rintro ⟨z1, z2⟩; exact ⟨z1, (hh z1).mpr z2⟩
        · exact h
      rw [hφ, ← hS']
      refine ⟨⟨hA2, hDn, fun a ha => ?_⟩, ?_, fun q h1 h2 h4 => ?_, fun i hi => ?_⟩
      · have c1 : ∀ i, 1 ≤ i → i ≤ 4 → μ2.1 (17 + 5 * a + i) = μ1.1 (17 + 5 * a + i) := fun i hi hi4 => by
          rw [ho2.2.1 _ (by unfold lnI scI; rintro (z | z | z | ⟨b, z1, z2⟩) <;> omega), wI_ne (by omega)]
        have hfull : μ2.1 (17 + 5 * a) = upd (μ1.1 (17 + 5 * a)) 1 (μ1.1 (17 + 5 * a) 1 ||| D) := by
          rw [hw2 a ha, wI_ne (by omega)]
        refine ⟨wyK_up1 hfull (c1 1 (by decide) (by decide)) (c1 3 (by decide) (by decide)) (hWs1 a ha).1, fun k hk hbt => ?_⟩
        rw [hfull, upd_at, b_or, Bool.or_eq_false_iff] at hbt
        obtain ⟨z1, z2⟩ := hbt
        obtain ⟨y1, y2, y3⟩ := hk2 k hk z2
        rw [key1] at y1 y2
        rw [m12] at y3
        have hd : sDn T Lw S' k ↔ sDn T Lw Sj k := by
          have d1 := hDn k (by omega)
          have d2 := hD1 k (by omega)
          rw [y3] at d1
          exact ⟨fun z => (d2.mp (d1.mpr ⟨hk, z⟩)).2, fun z => (d1.mp (d2.mpr ⟨hk, z⟩)).2⟩
        have hgt : sGt S' k ↔ sGt Sj k := by unfold sGt; rw [uo 64 (by decide)]
        refine prE_congr (c1 1 (by decide) (by decide)) (c1 2 (by decide) (by decide)) hd hgt (fun hgk => ?_) (fun hfk => ?_) ((hWs1 a ha).2 k hk z1)
        · have hb64 : bt (S' 64) k = true := (sGt_bt (by omega)).mp (hgt.mpr hgk)
          exact law_nf (q := 0) hv (by decide) hg1 hBB1 (by omega) hrt1 (uo 65 (by decide)) (uo k (by omega)) g1 g4 e1 e4 g2 g3 e2 e3 (y1 hb64)
        · exact law_nf (q := 1) hv (by decide) hg1 hBB1 (by omega) hrt1 (uo 65 (by decide)) (uo k (by omega)) g1 g4 e1 e4 g2 g3 e2 e3 (y2 hfk)
      · refine (ho1.trans (hoM.mono (fun c hc => Or.inr (Or.inr (Or.inl hc))) (fun c hc => hc.elim))).trans (ho2.mono (fun c hc => ?_) (fun c hc => hc))
        unfold pnI
        rcases hc with z | z | z | ⟨b, z1, z2⟩
        · exact Or.inl z
        · exact Or.inr (Or.inl z)
        · exact Or.inr (Or.inr (Or.inr (Or.inl z)))
        · exact Or.inr (Or.inr (Or.inr (Or.inr (by omega))))
      · rw [hf2 q h1 h4, m12]; exact hf1 q h1 h2 h4
      · rw [hf2 2 (by decide) (by decide), m12, hs1 i hi, uo (12 + i) (by omega)]
        obtain ⟨-, hd8, -, s, hs, es, es2⟩ := hcd i hi
        rw [es, es2, nI_eq (by omega) (by omega)]
        omega
    · intro Sj c d μ1 hSj hcd hS1 ho1 hf1 hs1
      obtain ⟨hA1, hD1, hWs1⟩ := id hS1
      obtain ⟨hW1, hr1, ⟨hg1, hBB1, hrt1⟩, hn1, hb1⟩ := id hA1
      have hx1 := hW1.2.2.2.2.2.1
      have hP1 := ho1.gPP hP
      have hgt : ¬ μ1.1 t 2 ≤ nI j := by rw [hx1.2.1.2.2.1]; exact nI_ge hj (by omega)
      have k67 : Sj 67 = S 67 := by rw [hSj]; exact sNs_keep hv (by omega) _ (by omega)
      have hnext : sNs T Lw lots od th (j + 1) S = sNA T Lw lots od th j Sj := by rw [hSj]; rfl
      have hno : ¬ (sTh th j ∧ sHis T Sj j) → sNA T Lw lots od th j Sj = Sj := fun z => by unfold sNA; rw [if_neg z]
      have hyes : (sTh th j ∧ sHis T Sj j) → sNA T Lw lots od th j Sj = if sDs T Lw lots od Sj j (T 5 j) < INF then sGo T (sOw T Lw Sj lots od j) j (sWl T Lw lots od Sj j) (nI (T 8 j)) (addR Sj (43 + j) 1) else addR Sj (50 + j) 1 := fun z => by unfold sNA; rw [if_pos z]
      have hstay : sNA T Lw lots od th j Sj = Sj → J l mX10_passNight (jZ0 4 G (pV φ)) G 0 0 22 [.ref 12, .int (S 67), .int th, .int (nI j + 1)] [] μ1 := by
        intro hs
        rw [nI_inc]
        exact ih Sj c d μ1 (by rw [hnext, hs]) (fun i hi => by
          obtain ⟨z1, z2, z3, z4⟩ := hcd i hi
          exact ⟨by omega, by omega, z3, z4⟩) hS1 ho1 hf1 hs1
      refine b_X10_passNight_22 (ψ0 := fun _ => True) hG hP1 hgr hW1.1 hW1.2.1 hW1.2.2.1 (fun h => absurd h hgt) (fun h => absurd h hgt) (fun _ hz => ?_) (fun _ hz => c_X8_isNightOf (S := Sj) hG hP1 hW1.1 hx1 hj k67.symm) (fun _ hz => ?_)
      · exact hstay (hno (fun z => z.1 hz))
      · rintro x μ1 ⟨rfl, hxx⟩
        refine b_X10_passNight_50 hG hP1 (fun hz2 => ?_) (fun _ => c_X10_findWay hG hP1 hS1 hj) (fun hz2 => ?_)
        · refine hstay (hno (fun z => ?_))
          rcases hxx with ⟨h1, -⟩ | ⟨-, h1⟩
          · rw [h1] at hz2; exact absurd hz2 (by decide)
          · exact h1 z.2
        · have his : sTh th j ∧ sHis T Sj j := by
            refine ⟨hz, ?_⟩
            rcases hxx with ⟨-, h1⟩ | ⟨h1, -⟩
            · exact h1
            · exact absurd h1 hz2
          rintro x2 μ2 ⟨rfl, ho2, hS2, hdb2, hwy2⟩
          have hP2 := ho2.gPP hP1
          have ho12 : cOff (pnI t r (T 0 2)) (lnL t) μ μ2 := ho1.trans (ho2.mono (fun c hc => by
            unfold pnI
            rcases hc with z | z
            · exact Or.inr (Or.inr (Or.inr (Or.inr (by omega))))
            · exact Or.inr (Or.inr (Or.inr (Or.inl z)))) (fun c hc => Or.inr hc))
          have e12 : μ2.1 12 = μ1.1 12 := ho2.2.1 12 (by unfold fnI scI; omega)
          have hr2 : μ2.1 r = cRow Sj od lots th := hS2.1.2.1
          by_cases hI : sDs T Lw lots od Sj j (T 5 j) < INF
          · rw [if_pos hI]
            obtain ⟨E, hE⟩ : ∃ E, E = sGo T (sOw T Lw Sj lots od j) j (sWl T Lw lots od Sj j) (nI (T 8 j)) (addR Sj (43 + j) 1) := ⟨_, rfl⟩
            have hEn : sNA T Lw lots od th j Sj = E := by rw [hyes his, if_pos hI, hE]
            obtain ⟨h8, hin⟩ := sWl_in hv hI
            have hEc : ∀ i, i < 12 → E i = nI (c i + cnt (sWl T Lw lots od Sj j) i) ∧ cnt (sWl T Lw lots od Sj j) i ≤ 8 := fun i hi => ⟨by rw [hE]; exact sGo_w (by omega) hi _ _ _ _ (by rw [addR_ne (by omega)]; exact (hcd i hi).2.2.1), Nat.le_trans (cnt_le _ _) h8⟩
            have hEs : ∀ i, i < 12 → ∀ w, Sj (12 + i) = nI w → E (12 + i) = nI (w + cntS T (sWl T Lw lots od Sj j) i) := fun i hi w hw => by rw [hE]; exact sGo_s (by omega) hi _ _ _ w (fun k hk => by have := hin k hk; omega) (by rw [addR_ne (by omega)]; exact hw)
            have hEs8 : ∀ i, cntS T (sWl T Lw lots od Sj j) i ≤ 8 := fun i => Nat.le_trans (cntS_le _ _ _) h8
            have hE67 : E 67 = S 67 := by rw [hE, sGo_keep (by omega) (by omega) _ _ _ (fun k hk => by have := hin k hk; omega), addR_ne (by omega), k67]
            have hgE : rgS E (B + 1) := by
              refine ⟨⟨n0, by omega, by rw [hE67]; exact hn0⟩, fun k hk => ?_⟩
              by_cases k12 : k < 12
              · have z1 := hEc k k12
                have z2 := (hcd k k12).1
                exact ⟨_, by omega, z1.1⟩
              · obtain ⟨-, z2, -, s, z3, -, z5⟩ := hcd (k - 12) (by omega)
                have z6 := hEs (k - 12) (by omega) _ z5
                have z7 := hEs8 (k - 12)
                rw [show 12 + (k - 12) = k by omega] at z6
                exact ⟨_, by omega, z6⟩
            refine b_X10_passNight_58 hG hP2 hgr hS2.1.1.2.2.1 (fun h => absurd h (by decide)) (fun h => absurd h (by decide)) (fun _ => c_X10_walk hG hP2 hS2 hj hI hdb2 hwy2 rfl hE hgE) (fun _ => ?_)
            rintro μ3 ⟨hS3, ho3, hf3, hb3⟩
            refine b_X10_passNight_66 hG (ho3.gPP hP2) ?_
            rw [nI_inc]
            refine ih E (fun i => c i + cnt (sWl T Lw lots od Sj j) i) (fun i => d i + cntS T (sWl T Lw lots od Sj j) i) μ3 (by rw [hnext, hEn]) (fun i hi => ?_) hS3 (ho12.trans (ho3.mono (fun c hc => ?_) (fun c hc => hc.elim))) (fun f h1 h2 h4 => ?_) (fun i hi => ?_)
            · obtain ⟨z1, z2, z3, s, z4, z5, z6⟩ := hcd i hi
              have z7 := hEc i hi
              have z8 := hEs8 i
              exact ⟨by omega, by omega, z7.1, s, z4, z5, by rw [hEs i hi _ z6, Nat.add_assoc]⟩
            · unfold pnI
              rcases hc with z | z | ⟨b, z1, z2⟩
              · exact Or.inr (Or.inr (Or.inl z))
              · exact Or.inl z
              · exact Or.inr (Or.inr (Or.inr (Or.inr (by omega))))
            · rw [hf3 f h2 h4, e12]; exact hf1 f h1 h2 h4
            · rw [hb3 i (by omega), e12, Bool.or_eq_true, hs1 i hi, decide_eq_true_iff]
              show _ ↔ 0 < d i + cntS T (sWl T Lw lots od Sj j) i
              unfold cntS
              by_cases h4 : T 4 i = 1
              · rw [if_pos h4]
                have : i ∈ sWl T Lw lots od Sj j ↔ 0 < List.count i (sWl T Lw lots od Sj j) := List.count_pos_iff.symm
                rw [this]
                constructor
                · rintro (z | z) <;> omega
                · intro z
                  by_cases z' : 0 < d i
                  · exact Or.inl z'
                  · exact Or.inr ⟨by omega, h4⟩
              · rw [if_neg h4]
                constructor
                · rintro (z | z)
                  · omega
                  · exact absurd z.2 h4
                · intro z; exact Or.inl (by omega)
          · rw [if_neg hI]
            have hEn : sNA T Lw lots od th j Sj = addR Sj (50 + j) 1 := by rw [hyes his, if_neg hI]
            have i57 : (57 : Int32) + nI j = nI (57 + j) := nI_add 57 j
            have c57 : (nI (57 + j)).toNatClampNeg = 57 + j := nI_clamp (by omega)
            refine b_X10_passNight_58 (ψ1 := fun _ => True) hG hP2 hgr hS2.1.1.2.2.1 (fun _ => by rw [i57]; exact vp_in_nI (by omega) (by decide)) (fun _ => ?_) (fun h => absurd rfl h) (fun h => absurd rfl h)
            rw [i57, c57, nI_inc]
            have hoM : cOff (fun c => c = r) (fun _ => False) μ2 (wI μ2 r (57 + j) (μ2.1 r (57 + j) + 1)) := cOff_wI rfl
            refine ih (addR Sj (50 + j) 1) c d _ (by rw [hnext, hEn]) (fun i hi => ?_) (enS_row hS2 (fun q hq => addR_ne (by omega)) hoM ?_) (ho12.trans (hoM.mono (fun c hc => Or.inr (Or.inr (Or.inl hc))) (fun c hc => hc.elim))) (fun f h1 h2 h4 => ?_) (fun i hi => ?_)
            · obtain ⟨z1, z2, z3, z4⟩ := hcd i hi
              rw [addR_ne (by omega), addR_ne (by omega)]
              exact ⟨by omega, by omega, z3, z4⟩
            · rw [wI_eq, hr2, cRow_add (by omega), cix_lo (by omega), show 50 + j + 7 = 57 + j by omega]; rfl
            · rw [wI_ne (by omega), e12]; exact hf1 f h1 h2 h4
            · rw [wI_ne (by omega), e12]; exact hs1 i hi
  have ho0 : cOff (fun c => c = 12) (fun _ => False) μ (wI μ 12 2 0) := cOff_wI rfl
  have hk0 := kcI_low ho0 ht2 (fun c hc => by omega) (fun c hc => hc.elim) hkc
  have hA0 : enA G (wI μ 12 2 0) t r T Lw S od lots th B := enA_off ho0 (wI_off' (by decide)) hk0 (fun c hc => Or.inl hc) (fun c hc => hc.elim) hA
  have hS0 : enS G (wI μ 12 2 0) t r T Lw S od lots th B := by
    refine ⟨hA0, fun i hi => ?_, fun a ha => ?_⟩
    · rw [wI_off' (by decide)]; exact hD i hi
    · exact wyE_mem (wI_ne (by omega)) (wI_ne (by omega)) (wI_ne (by omega)) (wI_ne (by omega)) (hWs a ha)
  refine loop 0 (by omega) S (fun i => (S i).toNatClampNeg) (fun _ => 0) _ rfl (fun i hi => ?_) (hS0.mono (by omega) hB1) (ho0.mono (fun c hc => Or.inl hc) (fun c hc => hc.elim)) (fun f _ h2 _ => wI_off' h2) (fun i hi => ?_)
  · obtain ⟨w, h1, h2⟩ := hg.2 i (by omega)
    obtain ⟨w2, h3, h4⟩ := hg.2 (12 + i) (by omega)
    have : (S i).toNatClampNeg = w := by rw [h2]; exact nI_clamp (by omega)
    refine ⟨by show (S i).toNatClampNeg ≤ _; omega, by omega, by show S i = nI (S i).toNatClampNeg; rw [this]; exact h2, w2, h3, h4, h4⟩
  · rw [wI_at, b_0]; simp
end PassC
