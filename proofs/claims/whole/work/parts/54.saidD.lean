/-- what stands when a row is entered: the text, the row, the night's key, what the LAWS keep -/
def wdC (G : jG) (μ : jM) (t r : Nat) (T : sT) (Lw : Nat → sLaw) : Prop := tO gTold pTold G μ t ∧ μ.2.2 12 0 = some t ∧ μ.2.2 12 5 = some r ∧ (r = 53 ∨ r = 59 ∨ r = 65) ∧ G[r]? = some (0, 71) ∧ txC μ t T Lw ∧ kcI μ t T Lw
theorem cRow_rt {S : sR} {od lots th : Int32} {k : Nat} : cRow S od lots th (1 + k % 2) = rtC S od k := by
  have h : k % 2 = 0 ∨ k % 2 = 1 := by omega
  rcases h with h | h <;> simp [cRow, rtC, h]
theorem cRow_w {S : sR} {od lots th : Int32} {k : Nat} (hk : k < 64) : cRow S od lots th (7 + k) = S k := by
  unfold cRow
  rw [if_neg (by omega), if_neg (by omega), if_neg (by omega), if_neg (by omega), if_neg (by omega), if_neg (by omega), if_neg (by omega), if_pos (by omega)]
  congr 1; omega
theorem ix_par {k : Nat} (hk : k < 2 ^ 31) : (1 : Int32) + (nI k &&& 1) = nI (1 + k % 2) := by
  rw [pk_andN (by omega) 1 (by decide)]
  exact nI_add 1 (k % 2)
theorem v9_hi (x0 x1 x2 x3 x4 x5 x6 x7 x8 y0 y1 y2 : Int32) (i : Nat) (h : 3 ≤ i) : v9 x0 x1 x2 x3 x4 x5 x6 x7 x8 i = v9 y0 y1 y2 x3 x4 x5 x6 x7 x8 i := by
  unfold v9
  split <;> first | rfl | (exfalso; omega)
section SaidD
variable {l : Launch} {G : jG}
set_option maxHeartbeats 1000000 in
theorem c_X10_said (hG : gGG G) {μ : jM} (hP : gPP μ) {t r q a k night fog rate wear : Nat} {T : sT} {Lw : Nat → sLaw} {S : sR} {od lots th : Int32} (hW : wdC G μ t r T Lw) (hq : q < 3) (ha : a < T 0 2 ∨ (q = 2 ∧ a = 0)) (hk : k < T 0 1)
    (hS : μ.1 r = cRow S od lots th) (hn : S 67 = nI night) (hrt : rtC S od k = nI rate) (hwr : S k = nI wear) (hky : kyR night fog rate wear) (hnk : nkI μ night fog) :
    jC0 l mX10_said 1 G [.ref 12, .ref (lw t q), .int (nI a), .int (nI k), .int (most q)] μ (pI fun x μ' => x = lawN T Lw q a k night fog rate wear ∧ cOff (scI t) (scL t) μ μ' ∧ kcI μ' t T Lw) := by
  refine jC0.of' (ls := [.ref 12, .ref (lw t q), .int (nI a), .int (nI k), .int (most q), .null, .null, .null, .null, .null, .null]) rfl rfl rfl (fun _ _ => Nat.le_of_ble_eq_true rfl) ?_
  obtain ⟨ht, q0, q5, hr, hgr, hx, hkc⟩ := hW
  have hnk12 := hx.2.2.2.2.2.1.2.1
  have hng := hx.2.2.2.2.2.1.2.2.1
  have ht2 := hx.1
  have ha7 : a < 7 := by omega
  have hw := tO_law ht hq
  have hwc := lw_cases (t := t) hq
  obtain ⟨hlc, hmk, he9⟩ := hx.2.2.2.2.1 q hq
  have hwf := hx.2.2.2.2.2.2.2.2 q
  have iat : (nI a * 12) + nI k = nI (12 * a + k) := by rw [show (12 : Int32) = nI 12 from rfl, pk_mul, nI_add]; congr 1; omega
  have cat : (nI (12 * a + k)).toNatClampNeg = 12 * a + k := nI_clamp (by omega)
  have ipar := ix_par (k := k) (by omega)
  have cpar : (nI (1 + k % 2)).toNatClampNeg = 1 + k % 2 := nI_clamp (by omega)
  have i7 : (7 : Int32) + nI k = nI (7 + k) := nI_add 7 k
  have c7 : (nI (7 + k)).toNatClampNeg = 7 + k := nI_clamp (by omega)
  have ca : (nI a).toNatClampNeg = a := nI_clamp (by omega)
  have ck : (nI k).toNatClampNeg = k := nI_clamp (by omega)
  have r1 : μ.1 r (1 + k % 2) = nI rate := by rw [hS, cRow_rt, hrt]
  have r7 : μ.1 r (7 + k) = nI wear := by rw [hS, cRow_w (by omega), hwr]
  have r0 : μ.1 r 0 = nI night := by rw [hS]; exact hn
  have g3 := (hx.2.2.1 k hk).2.2.1
  have hkey : (((μ.2.1 12 6) + ((Int32.toInt64 (μ.1 r (Int32.toNatClampNeg (1 + (nI k &&& 1))))) <<< (Int32.toInt64 24 &&& 63))) + (Int32.toInt64 (μ.1 r (Int32.toNatClampNeg (7 + nI k))))) &&& (μ.2.1 (lw t q) 0) = lN (ky night fog rate wear) &&& mkL q (Lw q) := by
    rw [ipar, cpar, i7, c7, r1, r7, hnk.1, key_sum hky, hmk]
  have h84 : 12 * a + k < 84 := by omega
  have hdiv : (12 * a + k) / 12 = a ∧ (12 * a + k) % 12 = k := by omega
  refine b_X10_said_0 (ψ0 := fun z μ' => z = lRes (lE (vrV (vsQ q) (vrN T a k night fog rate wear)) (Lw q)) ∧ ∃ F F2, μ' = sI (sI μ 15 F) 16 F2) hG hP hgr ht hw q0 q5 ?_ ?_ ?_ (fun _ => vp_in_nI ha7 (by decide)) (fun _ => vp_in_nI (by omega) (by decide)) (fun _ => ?_) (fun _ => ?_) (fun h => ?_)
  · rw [ipar]; exact vp_in_nI (by omega) (by decide)
  · rw [i7]; exact vp_in_nI (by omega) (by decide)
  · rw [iat]; exact vp_in_nI h84 (by decide)
  · have n6 : ¬ t + 6 = 15 := by omega
    have n7 : ¬ t + 7 = 15 := by omega
    have n8 : ¬ t + 8 = 15 := by omega
    have n3 : ¬ t + 3 = 15 := by omega
    have nr : ¬ r = 15 := by omega
    simp only [wI_ne, ne_eq, n7, n8, n3, nr, not_false_eq_true]
    rw [ipar, cpar, i7, c7, r1, r7, r0, ca, ck, g3, hnk.2]
    rw [show wI μ 15 0 (μ.1 (t + 6) a) = sI μ 15 (upd (μ.1 15) 0 (μ.1 (t + 6) a)) from rfl, wI_sI, wI_sI, wI_sI, wI_sI, wI_sI, wI_sI, wI_sI, wI_sI]
    have hv9 := upd9 (μ.1 15) (μ.1 (t + 6) a) (μ.1 (t + 7) a) (μ.1 (t + 8) a) (nI fog) (nI rate) (nI (T 3 k)) (nI wear) (nI k) (nI night)
    generalize upd (upd (upd (upd (upd (upd (upd (upd (upd (μ.1 15) 0 (μ.1 (t + 6) a)) 1 (μ.1 (t + 7) a)) 2 (μ.1 (t + 8) a)) 3 (nI fog)) 4 (nI rate)) 5 (nI (T 3 k))) 6 (nI wear)) 7 (nI k)) 8 (nI night) = F at hv9 ⊢
    have ne15 : lw t q ≠ 15 ∧ lw t q + 3 ≠ 15 ∧ lw t q + 3 ≠ 16 := by omega
    refine (c_X2_valueOf (μ := sI μ 15 F) (w := lw t q) hG hP hw ne15.2.2 (vs := vsQ q) (L := Lw q) ?_ hwf he9).mono (pI_mono ?_)
    · unfold lwC at hlc ⊢
      rw [sI_ne ne15.1, sI_ne ne15.2.1]; exact hlc
    · rintro z μ' ⟨rfl, F2, rfl⟩
      refine ⟨?_, F, F2, rfl⟩
      rw [sI_eq]
      congr 1
      -- the variables are those that the LAW may see
      have hsee : ∀ i, i < 9 → vrV (vsQ q) F i = vrV (vsQ q) (vrN T a k night fog rate wear) i := by
        intro i hi
        unfold vrV
        by_cases hv : vsQ q i = true
        · rw [if_pos hv, if_pos hv, hv9 i hi]
          unfold vrN
          rcases ha with ha | ⟨rfl, rfl⟩
          · obtain ⟨-, -, k7, k8, k9⟩ := hx.2.2.2.1 a ha
            rw [k7, k8, k9]
          · refine v9_hi _ _ _ _ _ _ _ _ _ _ _ _ i ?_
            have : vsB i = true := hv
            unfold vsB at this
            simp at this
            omega
        · rw [if_neg hv, if_neg hv]
      exact lE_congr hsee _ hwf
  · rintro z μ2 ⟨rfl, F, F2, rfl⟩
    have hoff : cOff (scI t) (scL t) μ (sI (sI μ 15 F) 16 F2) := (cOff_sI (Or.inl rfl)).trans (cOff_sI (Or.inr (Or.inl rfl)))
    rw [hkey, iat]
    refine b_X10_said_197 (μ := sI (sI μ 15 F) 16 F2) hG hP hw (vp_in_nI h84 (by decide)) ?_
    rw [cat]
    have hmost : 0 ≤ (most q).toInt := by unfold most; split <;> decide
    rw [heldEq hmost]
    have hI : scI t (lw t q + 2) := by unfold scI; omega
    have hL : scL t (lw t q + 1) := by unfold scL; omega
    refine ⟨rfl, (hoff.trans (cOff_wL hL)).trans (cOff_wI hI), ?_⟩
    intro q' hq' i hi
    have hwc' := lw_cases (t := t) hq'
    by_cases hqq : q' = q
    · subst hqq
      by_cases hii : i = 12 * a + k
      · subst hii
        refine Or.inr ⟨night, fog, rate, wear, hky, ?_, ?_⟩
        · show (wL (sI (sI μ 15 F) 16 F2) (lw t q' + 1) (12 * a + k) _).2.1 (lw t q' + 1) (12 * a + k) = _
          rw [wL_eq]; exact pk_uLs
        · rw [wI_at, hdiv.1, hdiv.2]; rfl
      · have e1 : (wI (wL (sI (sI μ 15 F) 16 F2) (lw t q' + 1) (12 * a + k) (lN (ky night fog rate wear) &&& mkL q' (Lw q'))) (lw t q' + 2) (12 * a + k) (sHeld (most q') (lE (vrV (vsQ q') (vrN T a k night fog rate wear)) (Lw q')))).2.1 (lw t q' + 1) i = μ.2.1 (lw t q' + 1) i := by
          show (wL (sI (sI μ 15 F) 16 F2) (lw t q' + 1) (12 * a + k) _).2.1 (lw t q' + 1) i = _
          rw [wL_eq]; exact pk_uLn hii
        rw [e1, wI_off' hii]
        have e2 : (wL (sI (sI μ 15 F) 16 F2) (lw t q' + 1) (12 * a + k) (lN (ky night fog rate wear) &&& mkL q' (Lw q'))).1 (lw t q' + 2) = μ.1 (lw t q' + 2) := by
          show (sI (sI μ 15 F) 16 F2).1 (lw t q' + 2) = _
          rw [sI_ne (by omega), sI_ne (by omega)]
        rw [e2]
        exact hkc q' hq' i hi
    · have hd : lw t q' ≠ lw t q := by unfold lw; omega
      have hd2 : lw t q' + 2 ≠ lw t q + 2 ∧ lw t q' + 1 ≠ lw t q + 1 := by omega
      have e1 : (wI (wL (sI (sI μ 15 F) 16 F2) (lw t q + 1) (12 * a + k) (lN (ky night fog rate wear) &&& mkL q (Lw q))) (lw t q + 2) (12 * a + k) (sHeld (most q) (lE (vrV (vsQ q) (vrN T a k night fog rate wear)) (Lw q)))).2.1 (lw t q' + 1) = μ.2.1 (lw t q' + 1) := by
        show (wL (sI (sI μ 15 F) 16 F2) (lw t q + 1) (12 * a + k) _).2.1 (lw t q' + 1) = _
        rw [wL_ne hd2.2]; rfl
      have e2 : (wI (wL (sI (sI μ 15 F) 16 F2) (lw t q + 1) (12 * a + k) (lN (ky night fog rate wear) &&& mkL q (Lw q))) (lw t q + 2) (12 * a + k) (sHeld (most q) (lE (vrV (vsQ q) (vrN T a k night fog rate wear)) (Lw q)))).1 (lw t q' + 2) = μ.1 (lw t q' + 2) := by
        rw [wI_ne hd2.1]
        show (sI (sI μ 15 F) 16 F2).1 (lw t q' + 2) = _
        rw [sI_ne (by omega), sI_ne (by omega)]
      rw [e1, e2]
      exact hkc q' hq' i hi
  · rw [hkey, iat, cat, lgc0] at h
    rw [iat, cat]
    refine ⟨?_, cOff.refl, hkc⟩
    rcases hkc q hq (12 * a + k) h84 with h1 | ⟨n, f, r', w', hkr, h1, h2⟩
    · rw [h1] at h; exact absurd h.symm key_ne
    · rw [h2, hdiv.1, hdiv.2]
      exact lawN_key hkr hky (by rw [← h1, h])
end SaidD
