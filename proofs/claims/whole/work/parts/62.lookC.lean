/-! THE CLASS: lookAtNight -/
def lnI (t n c : Nat) : Prop := c = 12 ∨ c = 14 ∨ scI t c ∨ ∃ a, a < n ∧ c = 17 + 5 * a
def lnL (t c : Nat) : Prop := c = 12 ∨ scL t c
def brP (μ : jM) (T : sT) (Lw : Nat → sLaw) : Prop := μ.2.1 12 7 = -1 ∨ ∃ n f, n < 2 ^ 30 ∧ f < 2 ∧ μ.2.1 12 7 = lN (n * 2 ^ 32 + f * 2 ^ 28) &&& mkL 2 (Lw 2) ∧ ∀ k, k < T 0 1 → μ.1 14 k = lawN T Lw 2 0 k n f 0 0
theorem brS_P {μ : jM} {T : sT} {Lw : Nat → sLaw} {S : sR} (hv : vT T Lw) (h : brS μ T Lw S) : brP μ T Lw := by
  obtain ⟨h1, n, f, h2, h3, h4, h5⟩ := h
  exact Or.inr ⟨n, f, h3, h4, h5, fun k hk => by rw [h1 k hk]; exact (lawN_B (hv.2.2.2 2) h2).symm⟩
/-- what looking at the night leaves; b the BROKEN ones before -/
def lnP (G : jG) (μ : jM) (t r : Nat) (T : sT) (Lw : Nat → sLaw) (S : sR) (od lots th : Int32) (B : Nat) (μ' : jM) : Prop :=
  cOff (lnI t (T 0 2)) (lnL t) μ μ' ∧ enA G μ' t r T Lw S od lots th B ∧ (∀ f, f ≠ 1 → f ≠ 4 → μ'.1 12 f = μ.1 12 f) ∧ ∃ D n f, S 67 = nI n ∧ n < 2 ^ 30 ∧ f < 2 ∧ sFg T S lots = nI f ∧
    (∀ a, a < T 0 2 → μ'.1 (17 + 5 * a) = upd (μ.1 (17 + 5 * a)) 1 (μ.1 (17 + 5 * a) 1 ||| D)) ∧
    (∀ k, k < T 0 1 → bt D k = false → (bt (S 64) k = true → ((μ.2.1 12 6) ^^^ lN (n * 2 ^ 32 + f * 2 ^ 28)) &&& mkL 0 (Lw 0) = 0) ∧ (T 4 k = 1 → ((μ.2.1 12 6) ^^^ lN (n * 2 ^ 32 + f * 2 ^ 28)) &&& mkL 1 (Lw 1) = 0) ∧ bt (μ'.1 12 4) k = bt (μ.1 12 4) k) ∧
    ((μ'.1 12 4 = μ.1 12 4 ∧ μ.2.1 12 7 = lN (n * 2 ^ 32 + f * 2 ^ 28) &&& mkL 2 (Lw 2)) ∨ dnI μ' T Lw S)
theorem key_nf {n f : Nat} (hn : n < 2 ^ 30) (hf : f < 2) : ((nI n).toInt64 <<< (Int32.toInt64 32 &&& 63)) + ((nI f).toInt64 <<< (Int32.toInt64 28 &&& 63)) = lN (n * 2 ^ 32 + f * 2 ^ 28) := by
  have e1 : (nI n).toInt64 = lN n := nI_l (by omega)
  have e2 : (nI f).toInt64 = lN f := nI_l (by omega)
  have e3 : lN n <<< (Int32.toInt64 32 &&& 63) = lN (n * 2 ^ 32) := g_shl (a := n) (k := 32) (p := 2 ^ 32) (by decide) (by decide) rfl (by omega)
  have e4 : lN f <<< (Int32.toInt64 28 &&& 63) = lN (f * 2 ^ 28) := g_shl (a := f) (k := 28) (p := 2 ^ 28) (by decide) (by decide) rfl (by omega)
  rw [e1, e2, e3, e4, lN_add]
section LookC
variable {l : Launch} {G : jG}
set_option maxHeartbeats 1000000 in
theorem c_X10_lookAtNight (hG : gGG G) {μ : jM} (hP : gPP μ) {t r B : Nat} {T : sT} {Lw : Nat → sLaw} {S : sR} {od lots th : Int32} (hW : wdC G μ t r T Lw) (hr : μ.1 r = cRow S od lots th) (hg : rgS S B) (hB : B ≤ BB) (hrt : rtS S od) (hbr : brP μ T Lw) :
    jC0 l mX10_lookAtNight 2 G [.ref 12] μ (pV (lnP G μ t r T Lw S od lots th B)) := by
  refine jC0.of' (ls := [.ref 12, .null, .null, .null, .null, .null, .null]) rfl rfl rfl (fun _ _ => Nat.le_of_ble_eq_true rfl) ?_
  obtain ⟨ht, q0, q5, hr3, hgr, hx, hkc⟩ := id hW
  have hv := hx.2.2.2.2.2
  have h12 := hv.1.2.1
  have h7 := hv.1.2.2.1
  have ht2 := hx.1
  obtain ⟨n, hnB, hn⟩ := hg.1
  have hn30 : n < 2 ^ 30 := by unfold BB at hB; omega
  obtain ⟨f, hf2, hf⟩ := sFg_in (T := T) (S := S) (lots := lots)
  have hfl := sFg_lt hv (lots := lots) hn
  rw [hf] at hfl
  obtain ⟨K, hK⟩ : ∃ K, K = lN (n * 2 ^ 32 + f * 2 ^ 28) := ⟨_, rfl⟩
  have hkey := key_nf hn30 hf2
  rw [← hK] at hkey
  have r0 : μ.1 r 0 = nI n := by rw [hr]; exact hn
  have r5 : μ.1 r 5 = lots := by rw [hr]; rfl
  have r4 : μ.1 r 4 = S 64 := by rw [hr]; rfl
  have f16 : μ.1 t 16 = nI (T 0 4) := hx.2.1.2.2.2.2.1
  have mk0 := (hx.2.2.2.2.1 2 (by decide)).2.1
  have nr12 : r ≠ 12 ∧ r ≠ 14 ∧ t ≠ 12 ∧ t ≠ 14 := by omega
  obtain ⟨φ, hφ⟩ : ∃ φ : jM → Prop, φ = lnP G μ t r T Lw S od lots th B := ⟨_, rfl⟩
  rw [← hφ]
  -- what is told of the night, and doubt
  have hA0 : cOff (lnI t (T 0 2)) (lnL t) μ (wL (wI μ 12 1 (nI f)) 12 6 K) := (cOff_wI (Or.inl rfl)).trans (cOff_wL (Or.inl rfl))
  have hA0' : cOff (fun c => c = 12) (fun c => c = 12) μ (wL (wI μ 12 1 (nI f)) 12 6 K) := cOff.trans (μ1 := wI μ 12 1 (nI f)) (cOff_wI (PI := fun c => c = 12) rfl) (cOff_wL (PL := fun c => c = 12) rfl)
  have hWA : wdC G (wL (wI μ 12 1 (nI f)) 12 6 K) t r T Lw := wdC_off hA0' (kcI_low hA0' ht2 (fun c hc => by omega) (fun c hc => by omega) hkc) (fun c hc => by omega) (fun c hc => by omega) hW
  -- from where the key of what ROADS bear is looked at
  have rest : ∀ (μb : jM) (D1 : Int32), dbR (T 0 2) D1 (wL (wI μ 12 1 (nI f)) 12 6 K) μb → (∀ i, i < 32 → (bt D1 i = true ↔ ((¬ ((μ.2.1 12 6) ^^^ K) &&& mkL 0 (Lw 0) = 0 ∧ bt (μ.1 r 4) i = true) ∨ (¬ ((μ.2.1 12 6) ^^^ K) &&& mkL 1 (Lw 1) = 0 ∧ bt (μ.1 t 6) i = true)) ∧ bt (-1) i = true)) → J l mX10_lookAtNight (jZ0 2 G (pV φ)) G 0 0 82 [.ref 12, .null, .null, .null, .null, .null, .null] [] μb := by
    intro μb D1 hdb hD1
    have hob : cOff (lnI t (T 0 2)) (lnL t) μ μb := hA0.trans (hdb.1.mono (fun c hc => Or.inr (Or.inr (Or.inr hc))) (fun c hc => hc.elim))
    have hPb := hob.gPP hP
    have n12 : ¬ ∃ a, a < T 0 2 ∧ 12 = 17 + 5 * a := by rintro ⟨a, h1, h2⟩; omega
    have b12 : ∀ g, g ≠ 1 → μb.1 12 g = μ.1 12 g := fun g hg1 => by
      rw [hdb.1.2.1 12 n12]
      show (wI μ 12 1 (nI f)).1 12 g = _
      rw [wI_off' hg1]
    have b121 : μb.1 12 1 = nI f := by
      rw [hdb.1.2.1 12 n12]
      show (wI μ 12 1 (nI f)).1 12 1 = _
      rw [wI_at]
    have bL6 : μb.2.1 12 6 = K := by rw [hdb.1.2.2 12 (fun z => z)]; rw [wL_eq]; exact pk_uLs
    have bL7 : μb.2.1 12 7 = μ.2.1 12 7 := by rw [hdb.1.2.2 12 (fun z => z)]; rw [wL_eq]; exact pk_uLn (by decide)
    have b14 : μb.1 14 = μ.1 14 := by
      rw [hdb.1.2.1 14 (by rintro ⟨a, h1, h2⟩; omega)]
      show (wI μ 12 1 (nI f)).1 14 = _
      exact wI_ne (by decide)
    have hkb : kcI μb t T Lw := kcI_low hdb.1 ht2 (by rintro c ⟨a, h1, h2⟩; omega) (fun c hc => hc.elim) hWA.2.2.2.2.2.2
    have hWb : wdC G μb t r T Lw := wdC_off hdb.1 hkb (by rintro c ⟨a, h1, h2⟩; omega) (fun c hc => hc.elim) hWA
    have hrb : μb.1 r = cRow S od lots th := by rw [hdb.1.2.1 r (by rintro ⟨a, h1, h2⟩; omega), ← hr]; exact wI_ne nr12.1
    have bway : ∀ a, a < T 0 2 → μb.1 (17 + 5 * a) = upd (μ.1 (17 + 5 * a)) 1 (μ.1 (17 + 5 * a) 1 ||| D1) := fun a ha => by
      have := hdb.2 a ha
      rw [show (wL (wI μ 12 1 (nI f)) 12 6 K).1 (17 + 5 * a) = μ.1 (17 + 5 * a) from wI_ne (by omega)] at this
      exact this
    have hnk : ∀ μ1 : jM, μ1.1 12 1 = nI f → μ1.2.1 12 6 = K → nkS μ1 T S lots := fun μ1 h1 h2 => ⟨n, f, hn, hn30, hf2, hf, by rw [h2, hK], h1⟩
    have mkb : μb.2.1 (t + 17) 0 = mkL 2 (Lw 2) := (hWb.2.2.2.2.2.1.2.2.2.2.1 2 (by decide)).2.1
    have hDk : ∀ D k, k < T 0 1 → (bt D k = false → bt D1 k = false) → bt D k = false → (bt (S 64) k = true → ((μ.2.1 12 6) ^^^ K) &&& mkL 0 (Lw 0) = 0) ∧ (T 4 k = 1 → ((μ.2.1 12 6) ^^^ K) &&& mkL 1 (Lw 1) = 0) := by
      intro D k hk hsub hD
      have h1 := hD1 k (by omega)
      rw [hsub hD, b_m1 k (by omega), r4] at h1
      refine ⟨fun hgt => Classical.byContradiction (fun z => absurd (h1.mpr ⟨Or.inl ⟨z, hgt⟩, rfl⟩) (by decide)), fun hfd => Classical.byContradiction (fun z => absurd (h1.mpr ⟨Or.inr ⟨z, ?_⟩, rfl⟩) (by decide))⟩
      have g4 := (hx.2.2.1 k hk).2.2.2
      rw [hfd] at g4
      exact (sh1_1 (by omega) (μ.1 t 6)).mp g4
    refine b_X10_lookAtNight_82 hG hPb hWb.1 hWb.2.1 (fun h => ?_) (fun h => ?_)
    · rw [lgc0, bL6, bL7, mkb] at h
      have hbrS : brS μb T Lw S := by
        refine ⟨fun k hk => ?_, n, f, hn, hn30, hf2, by rw [bL7, ← h, hK]⟩
        rw [b14]
        rcases hbr with h1 | ⟨n', f', g1, g2, g3, g4⟩
        · rw [h1, hK] at h; exact absurd h key_ne
        · rw [g4 k hk, lawN_key (q := 2) (n2 := n) (f2 := f) (r2 := 0) (w2 := 0) ⟨g1, g2, by decide, by decide⟩ ⟨hn30, hf2, by decide, by decide⟩ (by rw [ky00, ky00, ← g3, ← h, hK])]
          exact lawN_B (hv.2.2.2 2) hn
      rw [hφ]
      refine ⟨hob, ⟨hWb, hrb, ⟨hg, hB, hrt⟩, hnk μb b121 bL6, hbrS⟩, fun g h1 _ => b12 g h1, D1, n, f, hn, hn30, hf2, hf, bway, fun k hk hD => ?_, Or.inl ⟨b12 4 (by decide), by rw [← h, hK]⟩⟩
      rw [b12 4 (by decide), ← hK]
      exact ⟨(hDk D1 k hk id hD).1, (hDk D1 k hk id hD).2, rfl⟩
    · rw [bL6, mkb]
      obtain ⟨K2, hK2⟩ : ∃ K2, K2 = K &&& mkL 2 (Lw 2) := ⟨_, rfl⟩
      rw [← hK2]
      have hoc : cOff (fun _ => False) (fun c => c = 12) μb (wL μb 12 7 K2) := cOff_wL rfl
      -- after the loop
      have loop : ∀ j, j ≤ T 0 1 → ∀ (μd : jM), cOff (fun c => c = 14 ∨ scI t c) (scL t) (wL μb 12 7 K2) μd → kcI μd t T Lw → (∀ k, k < j → μd.1 14 k = sBears T Lw S k) → J l mX10_lookAtNight (jZ0 2 G (pV φ)) G 0 0 118 [.ref 12, .null, .null, .null, .null, .null, .int (nI j)] [] μd := by
        intro j0 hj0
        have facts : ∀ (μd : jM), cOff (fun c => c = 14 ∨ scI t c) (scL t) (wL μb 12 7 K2) μd → kcI μd t T Lw → cOff (lnI t (T 0 2)) (lnL t) μ μd ∧ gPP μd ∧ wdC G μd t r T Lw ∧ μd.1 r = cRow S od lots th ∧ μd.1 12 = μb.1 12 ∧ μd.2.1 12 6 = K ∧ μd.2.1 12 7 = K2 ∧ ∀ a, a < T 0 2 → μd.1 (17 + 5 * a) = μb.1 (17 + 5 * a) := by
          intro μd ho hkd
          have hod : cOff (lnI t (T 0 2)) (lnL t) μ μd := (hob.trans (hoc.mono (fun c hc => hc.elim) (fun c hc => Or.inl hc))).trans (ho.mono (fun c hc => by
            rcases hc with h | h
            · exact Or.inr (Or.inl h)
            · exact Or.inr (Or.inr (Or.inl h))) (fun c hc => Or.inr hc))
          have nL : ¬ scL t 12 := by unfold scL; omega
          refine ⟨hod, hod.gPP hP, ?_, ?_, ?_, ?_, ?_, fun a ha => ?_⟩
          · have hoo : cOff (fun c => c = 14 ∨ scI t c) (fun c => c = 12 ∨ scL t c) μb μd := (hoc.mono (fun c hc => hc.elim) (fun c hc => Or.inl hc)).trans (ho.mono (fun c hc => hc) (fun c hc => Or.inr hc))
            exact wdC_off hoo hkd (fun c hc => hc.elim (fun z => Or.inl (by omega)) Or.inr) (fun c hc => hc.elim (fun z => Or.inl (by omega)) Or.inr) hWb
          · rw [ho.2.1 r (by unfold scI; omega)]; exact hrb
          · rw [ho.2.1 12 (by unfold scI; omega)]; rfl
          · rw [ho.2.2 12 nL, wL_eq, pk_uLn (by decide)]; exact bL6
          · rw [ho.2.2 12 nL, wL_eq]; exact pk_uLs
          · rw [ho.2.1 _ (by unfold scI; omega)]; rfl
        revert j0
        refine up_loop (T 0 1) ?_ (fun j hj ih => ?_)
        · intro μd ho hkd hb
          obtain ⟨hod, hPd, hWd, hrd, d12, d6, d7, dw⟩ := facts μd ho hkd
          have hle : μd.1 t 1 ≤ nI (T 0 1) := by rw [hWd.2.2.2.2.2.1.2.1.2.1]; exact nI_le (Nat.le_refl _) (by omega)
          refine b_X10_lookAtNight_118 (ψ1 := fun _ _ => True) hG hPd hWd.1 hWd.2.1 (fun _ => c_X10_findBroken hG hPd hWd (fun k hk => by rw [hrd]; exact cRow_w (by omega)) hb) (fun _ => ?_) (fun h => absurd hle h) (fun h => absurd hle h)
          rintro v μd ⟨rfl, hbits⟩
          have hoe : cOff (lnI t (T 0 2)) (lnL t) μ (wI μd 12 4 v) := hod.trans (cOff_wI (Or.inl rfl))
          have hWe : wdC G (wI μd 12 4 v) t r T Lw := wdC_off (PI := fun c => c = 12) (PL := fun _ => False) (cOff_wI rfl) (kcI_low (PI := fun c => c = 12) (PL := fun _ => False) (cOff_wI rfl) ht2 (fun c hc => by omega) (fun c hc => hc.elim) hkd) (fun c hc => by omega) (fun c hc => hc.elim) hWd
          have hxe := hWe.2.2.2.2.2.1
          refine b_X10_lookAtNight_171 hG hPd (c_X10_doubt (μ := wI μd 12 4 v) hG (hoe.gPP hP) hWe.1 hWe.2.1 ht2 hxe.2.1.2.2.1 h7 _) ?_
          intro μ' hdb2
          refine b_X10_lookAtNight_185 hG (hdb2.1.gPP (hoe.gPP hP)) ?_
          have hof : cOff (lnI t (T 0 2)) (lnL t) μ μ' := hoe.trans (hdb2.1.mono (fun c hc => Or.inr (Or.inr (Or.inr hc))) (fun c hc => hc.elim))
          have f12 : ∀ g, g ≠ 4 → μ'.1 12 g = μb.1 12 g := fun g hg4 => by rw [hdb2.1.2.1 12 n12, wI_off' hg4, d12]
          have f124 : μ'.1 12 4 = v := by rw [hdb2.1.2.1 12 n12, wI_at]
          have hkf : kcI μ' t T Lw := kcI_low hdb2.1 ht2 (by rintro c ⟨a, h1, h2⟩; omega) (fun c hc => hc.elim) hWe.2.2.2.2.2.2
          have hWf : wdC G μ' t r T Lw := wdC_off hdb2.1 hkf (by rintro c ⟨a, h1, h2⟩; omega) (fun c hc => hc.elim) hWe
          have hrf : μ'.1 r = cRow S od lots th := by rw [hdb2.1.2.1 r (by rintro ⟨a, h1, h2⟩; omega), wI_ne nr12.1]; exact hrd
          have fL : ∀ g, μ'.2.1 12 g = μd.2.1 12 g := fun g => by rw [hdb2.1.2.2 12 (fun z => z)]; rfl
          have f14 : μ'.1 14 = μd.1 14 := by rw [hdb2.1.2.1 14 (by rintro ⟨a, h1, h2⟩; omega)]; exact wI_ne (by decide)
          rw [hφ]
          refine ⟨hof, ⟨hWf, hrf, ⟨hg, hB, hrt⟩, hnk μ' (by rw [f12 1 (by decide)]; exact b121) (by rw [fL]; exact d6), fun k hk => by rw [f14]; exact hb k hk, n, f, hn, hn30, hf2, by rw [fL, d7, hK2, hK]⟩, fun g h1 h4 => by rw [f12 g h4]; exact b12 g h1, D1 ||| (μd.1 12 4 ^^^ v), n, f, hn, hn30, hf2, hf, fun a ha => ?_, fun k hk hD => ?_, Or.inr ?_⟩
          · rw [hdb2.2 a ha, show (wI μd 12 4 v).1 (17 + 5 * a) = μd.1 (17 + 5 * a) from wI_ne (by omega), dw a ha, bway a ha, upd_at, upd_upd, Int32.or_assoc]
          · have hor := hD
            rw [b_or] at hor
            have h1 : bt D1 k = false := by cases z : bt D1 k; rfl; (rw [z] at hor; cases hor)
            rw [h1, Bool.false_or, b_xor] at hor
            rw [← hK]
            refine ⟨(hDk _ k hk (fun _ => h1) hD).1, (hDk _ k hk (fun _ => h1) hD).2, ?_⟩
            rw [f124, ← b12 4 (by decide), ← d12]
            revert hor
            cases bt v k <;> cases bt (μd.1 12 4) k <;> simp
          · intro i hi
            rw [f124]; exact hbits i hi
        · intro μd ho hkd hb
          obtain ⟨hod, hPd, hWd, hrd, d12, d6, d7, dw⟩ := facts μd ho hkd
          have hgt : ¬ μd.1 t 1 ≤ nI j := by rw [hWd.2.2.2.2.2.1.2.1.2.1]; exact nI_ge hj (by omega)
          obtain ⟨n', f', rt, w, hky, e1, e2, e3, e4, e5⟩ := rg_ky (T := T) (lots := lots) hg hB hrt (show j < 12 by omega)
          have hnk' : nkI μd n' f' := by
            rw [hn] at e1; rw [hf] at e2
            have z1 : n = n' := (nI_eq (by omega) (by have := hky.1; omega)).mp e1
            have z2 : f = f' := (nI_eq (by omega) (by have := hky.2.1; omega)).mp e2
            rw [← z1, ← z2]
            exact ⟨by rw [d6, hK], by rw [d12]; exact b121⟩
          refine b_X10_lookAtNight_118 (ψ0 := fun _ _ => True) hG hPd hWd.1 hWd.2.1 (fun h => absurd h hgt) (fun h => absurd h hgt) (fun _ => c_X10_said (q := 2) (a := 0) hG hPd hWd (by decide) (Or.inr ⟨rfl, rfl⟩) hj hrd e1 e3 e5 hky hnk') (fun _ => ?_)
          rintro v μe ⟨rfl, hoe, hke⟩
          refine b_X10_lookAtNight_153 hG (hoe.gPP hPd) (vp_in_nI (by omega) (by decide)) ?_
          rw [nI_inc, nI_clamp (by omega)]
          have ho2 : cOff (fun c => c = 14 ∨ scI t c) (scL t) (wL μb 12 7 K2) μe := ho.trans (hoe.mono (fun c hc => Or.inr hc) (fun c hc => hc))
          refine ih _ (ho2.trans (cOff_wI (Or.inl rfl))) ?_ (fun k hk => ?_)
          · exact kcI_low (PI := fun c => c = 14) (PL := fun _ => False) (cOff_wI rfl) ht2 (fun c hc => by omega) (fun c hc => hc.elim) hke
          · rw [wI_eq]
            by_cases hkj : k = j
            · rw [hkj, upd_at]; exact lawN_B (hv.2.2.2 2) e1
            · rw [upd_ne hkj, hoe.2.1 14 (by unfold scI; omega)]; exact hb k (by omega)
      refine loop 0 (by omega) _ cOff.refl ?_ (fun k hk => by omega)
      exact kcI_low hoc ht2 (fun c hc => hc.elim) (fun c hc => by omega) hkb
  have dob := fun (f0 : Int32) (hf0 : f0 = nI f) => show jC0 l mX10_doubtBy 1 G [.ref 12, .long ((μ.2.1 12 6) ^^^ (((Int32.toInt64 (nI n)) <<< (Int32.toInt64 32 &&& 63)) + ((Int32.toInt64 f0) <<< (Int32.toInt64 28 &&& 63)))), .int (-1)] (wL (wI μ 12 1 f0) 12 6 (((Int32.toInt64 (nI n)) <<< (Int32.toInt64 32 &&& 63)) + ((Int32.toInt64 f0) <<< (Int32.toInt64 28 &&& 63)))) (pV fun μb => ∃ D1, dbR (T 0 2) D1 (wL (wI μ 12 1 (nI f)) 12 6 K) μb ∧ (∀ i, i < 32 → (bt D1 i = true ↔ ((¬ ((μ.2.1 12 6) ^^^ K) &&& mkL 0 (Lw 0) = 0 ∧ bt (μ.1 r 4) i = true) ∨ (¬ ((μ.2.1 12 6) ^^^ K) &&& mkL 1 (Lw 1) = 0 ∧ bt (μ.1 t 6) i = true)) ∧ bt (-1) i = true))) from by
    rw [hf0, hkey]
    refine (c_X10_doubtBy hG (hA0.gPP hP) hWA ((μ.2.1 12 6) ^^^ K) (-1)).mono (pV_mono ?_)
    rintro μb ⟨D1, h1, h2⟩
    refine ⟨D1, h1, ?_⟩
    rw [show (wL (wI μ 12 1 (nI f)) 12 6 K).1 r = μ.1 r from wI_ne nr12.1, show (wL (wI μ 12 1 (nI f)) 12 6 K).1 t = μ.1 t from wI_ne nr12.2.2.1] at h2
    exact h2
  refine b_X10_lookAtNight_0 (ψ0 := fun μb => ∃ D1, dbR (T 0 2) D1 (wL (wI μ 12 1 (nI f)) 12 6 K) μb ∧ (∀ i, i < 32 → (bt D1 i = true ↔ ((¬ ((μ.2.1 12 6) ^^^ K) &&& mkL 0 (Lw 0) = 0 ∧ bt (μ.1 r 4) i = true) ∨ (¬ ((μ.2.1 12 6) ^^^ K) &&& mkL 1 (Lw 1) = 0 ∧ bt (μ.1 t 6) i = true)) ∧ bt (-1) i = true))) hG hP hgr ht q0 q5 (fun h => ?_) (fun _ => ?_) (fun _ => c_X10_lot hG hP _ _) (fun h1 => ?_)
  · rw [f16] at h
    rw [r0]
    exact dob 0 (by rw [hfl, if_pos h])
  · rintro μb ⟨D1, h1, h2⟩
    exact rest μb D1 h1 h2
  · rintro v μ ⟨rfl, rfl⟩
    rw [f16] at h1
    rw [r0, r5] at *
    refine b_X10_lookAtNight_35 (ψ0 := fun μb => ∃ D1, dbR (T 0 2) D1 (wL (wI μ 12 1 (nI f)) 12 6 K) μb ∧ (∀ i, i < 32 → (bt D1 i = true ↔ ((¬ ((μ.2.1 12 6) ^^^ K) &&& mkL 0 (Lw 0) = 0 ∧ bt (μ.1 r 4) i = true) ∨ (¬ ((μ.2.1 12 6) ^^^ K) &&& mkL 1 (Lw 1) = 0 ∧ bt (μ.1 t 6) i = true)) ∧ bt (-1) i = true))) (ψ1 := fun μb => ∃ D1, dbR (T 0 2) D1 (wL (wI μ 12 1 (nI f)) 12 6 K) μb ∧ (∀ i, i < 32 → (bt D1 i = true ↔ ((¬ ((μ.2.1 12 6) ^^^ K) &&& mkL 0 (Lw 0) = 0 ∧ bt (μ.1 r 4) i = true) ∨ (¬ ((μ.2.1 12 6) ^^^ K) &&& mkL 1 (Lw 1) = 0 ∧ bt (μ.1 t 6) i = true)) ∧ bt (-1) i = true))) hG hP ht q0 (fun h => ?_) (fun _ => ?_) (fun h => ?_) (fun _ => ?_)
    · rw [f16] at h
      exact dob 0 (by rw [hfl, if_neg h1, if_pos h])
    · rintro μb ⟨D1, h1, h2⟩
      exact rest μb D1 h1 h2
    · rw [f16] at h
      exact dob 1 (by rw [hfl, if_neg h1, if_neg h])
    · rintro μb ⟨D1, h1, h2⟩
      exact rest μb D1 h1 h2
end LookC
