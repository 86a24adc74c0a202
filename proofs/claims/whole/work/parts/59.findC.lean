/-! A ROW IS ENTERED: the text, the row, its night's key, what ROADS bear -/
theorem tO_way {G : jG} {μ : jM} (hG : gGG G) (hP : gPP μ) {a : Nat} (ha : a < 7) : tO gWay pWay G μ (17 + 5 * a) := by
  have h7 : a = 0 ∨ a = 1 ∨ a = 2 ∨ a = 3 ∨ a = 4 ∨ a = 5 ∨ a = 6 := by omega
  refine ⟨fun x sh hx => ?_, fun c f x hx => ?_⟩
  · have hx5 : x < 5 := (List.getElem?_eq_some_iff.mp hx).1
    have hx' : x = 0 ∨ x = 1 ∨ x = 2 ∨ x = 3 ∨ x = 4 := by omega
    rcases h7 with rfl | rfl | rfl | rfl | rfl | rfl | rfl <;> rcases hx' with rfl | rfl | rfl | rfl | rfl <;> (cases hx; exact hG _ _ rfl)
  · unfold pWay at hx
    split at hx
    · split at hx <;> first | (cases hx; rcases h7 with rfl | rfl | rfl | rfl | rfl | rfl | rfl <;> exact hP _ _ _ rfl) | cases hx
    · cases hx
theorem way_ref {μ : jM} (hP : gPP μ) {a : Nat} (ha : a < 7) : μ.2.2 13 a = some (17 + 5 * a) := by
  have h7 : a = 0 ∨ a = 1 ∨ a = 2 ∨ a = 3 ∨ a = 4 ∨ a = 5 ∨ a = 6 := by omega
  rcases h7 with rfl | rfl | rfl | rfl | rfl | rfl | rfl <;> exact hP _ _ _ rfl
def nkS (μ : jM) (T : sT) (S : sR) (lots : Int32) : Prop := ∃ n f, S 67 = nI n ∧ n < 2 ^ 30 ∧ f < 2 ∧ sFg T S lots = nI f ∧ nkI μ n f
def brS (μ : jM) (T : sT) (Lw : Nat → sLaw) (S : sR) : Prop := (∀ k, k < T 0 1 → μ.1 14 k = sBears T Lw S k) ∧ ∃ n f, S 67 = nI n ∧ n < 2 ^ 30 ∧ f < 2 ∧ μ.2.1 12 7 = lN (n * 2 ^ 32 + f * 2 ^ 28) &&& mkL 2 (Lw 2)
def enA (G : jG) (μ : jM) (t r : Nat) (T : sT) (Lw : Nat → sLaw) (S : sR) (od lots th : Int32) (B : Nat) : Prop := wdC G μ t r T Lw ∧ μ.1 r = cRow S od lots th ∧ (rgS S B ∧ B ≤ BB ∧ rtS S od) ∧ nkS μ T S lots ∧ brS μ T Lw S
def dnI (μ : jM) (T : sT) (Lw : Nat → sLaw) (S : sR) : Prop := ∀ i, i < 32 → (bt (μ.1 12 4) i = true ↔ (i < T 0 1 ∧ sDn T Lw S i))
def prE (μ : jM) (y : Nat) (T : sT) (Lw : Nat → sLaw) (S : sR) (od lots : Int32) (a k : Nat) : Prop := μ.1 (y + 1) k = nI (sPr T Lw S lots od a k) ∧ (¬ sDn T Lw S k → μ.1 (y + 2) k = sOw T Lw S lots od a k)
def wyE (μ : jM) (y : Nat) (T : sT) (Lw : Nat → sLaw) (S : sR) (od lots : Int32) (a : Nat) : Prop := wyK μ y T a ∧ ∀ k, k < T 0 1 → bt (μ.1 y 1) k = false → prE μ y T Lw S od lots a k
def enS (G : jG) (μ : jM) (t r : Nat) (T : sT) (Lw : Nat → sLaw) (S : sR) (od lots th : Int32) (B : Nat) : Prop := enA G μ t r T Lw S od lots th B ∧ dnI μ T Lw S ∧ ∀ a, a < T 0 2 → wyE μ (17 + 5 * a) T Lw S od lots a
theorem wyE_mem {μ μ' : jM} {y a : Nat} {T : sT} {Lw : Nat → sLaw} {S : sR} {od lots : Int32} (h0 : μ'.1 y = μ.1 y) (h1 : μ'.1 (y + 1) = μ.1 (y + 1)) (h2 : μ'.1 (y + 2) = μ.1 (y + 2)) (h3 : μ'.1 (y + 3) = μ.1 (y + 3)) (h : wyE μ y T Lw S od lots a) : wyE μ' y T Lw S od lots a := by
  refine ⟨wyK_mem h1 h3 (by rw [h0]) (by rw [h0]) (by rw [h0]) (by rw [h0]) h.1, ?_⟩
  unfold prE
  rw [h0, h1, h2]; exact h.2
/-- the text's, the row's and the night's words stay while their cells do -/
theorem wdC_off {G : jG} {PI PL : Nat → Prop} {μ μ' : jM} (h : cOff PI PL μ μ') {t r : Nat} {T : sT} {Lw : Nat → sLaw} (hk : kcI μ' t T Lw) (hi : ∀ c, PI c → c < 70 ∨ scI t c) (hl : ∀ c, PL c → c < 70 ∨ scL t c) (hW : wdC G μ t r T Lw) : wdC G μ' t r T Lw := by
  obtain ⟨ht, q0, q5, hr, hgr, hx, hkc⟩ := hW
  have ht2 := hx.1
  refine ⟨h.tO ht, by rw [h.1]; exact q0, by rw [h.1]; exact q5, hr, hgr, txC_off h hx (fun c h1 h2 h3 => ?_) (fun c h1 h2 h3 => ?_), hk⟩
  · have := hi c h3; unfold scI at this; omega
  · have := hl c h3; unfold scL at this; omega
theorem nkS_off {μ μ' : jM} {T : sT} {S : sR} {lots : Int32} (h1 : μ'.1 12 1 = μ.1 12 1) (h6 : μ'.2.1 12 6 = μ.2.1 12 6) (h : nkS μ T S lots) : nkS μ' T S lots := by
  unfold nkS nkI at h ⊢
  rw [h1, h6]; exact h
theorem brS_off {μ μ' : jM} {T : sT} {Lw : Nat → sLaw} {S : sR} (h1 : μ'.1 14 = μ.1 14) (h6 : μ'.2.1 12 7 = μ.2.1 12 7) (h : brS μ T Lw S) : brS μ' T Lw S := by
  unfold brS at h ⊢
  rw [h1, h6]; exact h
theorem enA_off {G : jG} {PI PL : Nat → Prop} {μ μ' : jM} (h : cOff PI PL μ μ') {t r B : Nat} {T : sT} {Lw : Nat → sLaw} {S : sR} {od lots th : Int32} (h1 : μ'.1 12 1 = μ.1 12 1) (hk : kcI μ' t T Lw) (hi : ∀ c, PI c → c = 12 ∨ (17 ≤ c ∧ c ≤ 51) ∨ scI t c) (hl : ∀ c, PL c → scL t c) (hA : enA G μ t r T Lw S od lots th B) : enA G μ' t r T Lw S od lots th B := by
  obtain ⟨hW, hr, hg, hn, hb⟩ := hA
  have ht2 := hW.2.2.2.2.2.1.1
  have hrr := hW.2.2.2.1
  have n12 : ¬ PL 12 := fun z => by have := hl _ z; unfold scL at this; omega
  refine ⟨wdC_off h hk (fun c hc => by have := hi c hc; unfold scI at this ⊢; omega) (fun c hc => Or.inr (hl c hc)) hW, ?_, hg, nkS_off h1 (by rw [h.2.2 12 n12]) hn, brS_off (h.2.1 14 (fun z => by have := hi _ z; unfold scI at this; omega)) (by rw [h.2.2 12 n12]) hb⟩
  rw [h.2.1 r (fun z => by have := hi _ z; unfold scI at this; omega)]; exact hr
section PriceC
variable {l : Launch} {G : jG}
theorem said_en (hG : gGG G) {μ : jM} (hP : gPP μ) {t r q a k B : Nat} {T : sT} {Lw : Nat → sLaw} {S : sR} {od lots th : Int32} (hA : enA G μ t r T Lw S od lots th B) (hq : q < 2) (ha : a < T 0 2) (hk : k < T 0 1) :
    jC0 l mX10_said 1 G [.ref 12, .ref (lw t q), .int (nI a), .int (nI k), .int 99] μ (pI fun x μ' => x = lawV (vrA T S lots od a k) (Lw q) 99 ∧ cOff (scI t) (scL t) μ μ' ∧ kcI μ' t T Lw) := by
  obtain ⟨hW, hr, ⟨hg, hB, hrt⟩, hn, -⟩ := hA
  have hv := hW.2.2.2.2.2.1.2.2.2.2.2
  have h12 := hv.1.2.1
  obtain ⟨n, f, rt, w, hky, h1, h2, h3, h4, h5⟩ := rg_ky (T := T) (lots := lots) hg hB hrt (show k < 12 by omega)
  have hnk : nkI μ n f := by
    obtain ⟨n', f', g1, g2, g3, g4, g5⟩ := hn
    rw [h1] at g1; rw [h2] at g4
    have e1 : n = n' := (nI_eq (by have := hky.1; omega) (by omega)).mp g1
    have e2 : f = f' := (nI_eq (by have := hky.2.1; omega) (by omega)).mp g4
    rw [e1, e2]; exact g5
  have hm : most q = 99 := by unfold most; rw [if_neg (by omega)]
  have := c_X10_said (l := l) hG hP hW (show q < 3 by omega) (Or.inl ha) hk hr h1 h3 h5 hky hnk
  rw [hm] at this
  refine this.mono (pI_mono ?_)
  rintro x μ' ⟨rfl, h6, h7⟩
  exact ⟨lawN_A hq (hv.2.2.2 q) h1 h2 h4 h5, h6, h7⟩
theorem kcI_low {PI PL : Nat → Prop} {μ μ' : jM} (h : cOff PI PL μ μ') {t : Nat} {T : sT} {Lw : Nat → sLaw} (ht : t = 70 ∨ t = 91) (hi : ∀ c, PI c → c < 70) (hl : ∀ c, PL c → c < 70) (hk : kcI μ t T Lw) : kcI μ' t T Lw :=
  kcI_off h hk (fun c hc => by have := hi c hc; omega) (fun c hc => by have := hl c hc; omega)
set_option maxHeartbeats 1000000 in
theorem c_X10_priceOf (hG : gGG G) {μ : jM} (hP : gPP μ) {t r a k B : Nat} {T : sT} {Lw : Nat → sLaw} {S : sR} {od lots th : Int32} (hA : enA G μ t r T Lw S od lots th B) (ha : a < T 0 2) (hk : k < T 0 1) :
    jC0 l mX10_priceOf 2 G [.ref 12, .int (nI a), .int (nI k)] μ (pI fun x μ' => x = sCost T Lw S lots od a k ∧ cOff (fun c => c = 17 + 5 * a + 2 ∨ scI t c) (scL t) μ μ' ∧ kcI μ' t T Lw ∧ μ'.1 (17 + 5 * a + 2) = upd (μ.1 (17 + 5 * a + 2)) k (sOw T Lw S lots od a k)) := by
  refine jC0.of' (ls := [.ref 12, .int (nI a), .int (nI k), .null, .null]) rfl rfl rfl (fun _ _ => Nat.le_of_ble_eq_true rfl) ?_
  obtain ⟨hW, hr, hrest⟩ := id hA
  obtain ⟨ht, q0, q5, hr3, hgr, hx, hkc⟩ := id hW
  have hv := hx.2.2.2.2.2
  have h12 := hv.1.2.1
  have h7 := hv.1.2.2.1
  have ht2 := hx.1
  have hy := tO_way hG hP (show a < 7 by omega)
  obtain ⟨y, hye⟩ : ∃ y, y = 17 + 5 * a := ⟨_, rfl⟩
  rw [← hye] at hy ⊢
  have hyr : 17 ≤ y ∧ y ≤ 47 := by omega
  have hwr : μ.2.2 13 (nI a).toNatClampNeg = some y := by rw [nI_clamp (by omega), hye]; exact way_ref hP (by omega)
  have ck : (nI k).toNatClampNeg = k := nI_clamp (by omega)
  have ik : vp_in (nI k) 12 := vp_in_nI (by omega) (by decide)
  have ia : vp_in (nI a) 7 := vp_in_nI (by omega) (by decide)
  obtain ⟨-, -, g3, g4⟩ := hx.2.2.1 k hk
  obtain ⟨-, -, -, v3a, v3b, v4⟩ := hv.2.1 k hk
  have hgt : μ.1 r 4 = S 64 := by rw [hr]; rfl
  have hsg : sGt S k ↔ ¬ (((μ.1 r 4) >>> (nI k &&& 31)) &&& 1) = 0 := by
    rw [hgt, sGt_bt (by omega), sh1_0 (by omega)]; cases bt (S 64) k <;> simp
  -- from the owed one on
  have wr : ∀ (μ1 : jM) (z : Int32), cOff (scI t) (scL t) μ μ1 → kcI μ1 t T Lw → z = sOw T Lw S lots od a k → ∃ μ2, μ2 = wI μ1 (y + 2) k z ∧ gPP μ2 ∧ enA G μ2 t r T Lw S od lots th B ∧ cOff (fun c => c = y + 2 ∨ scI t c) (scL t) μ μ2 ∧ μ2.1 (y + 2) = upd (μ.1 (y + 2)) k (sOw T Lw S lots od a k) ∧ μ2.1 t 6 = μ.1 t 6 ∧ kcI μ2 t T Lw := by
    intro μ1 z ho hk1 hz
    have h2 : cOff (fun c => c = y + 2 ∨ scI t c) (scL t) μ (wI μ1 (y + 2) k z) := (ho.mono (fun c hc => Or.inr hc) (fun c hc => hc)).trans (cOff_wI (Or.inl rfl))
    have hk2 : kcI (wI μ1 (y + 2) k z) t T Lw := kcI_low (PI := fun c => c = y + 2) (PL := fun _ => False) (cOff_wI rfl) ht2 (fun c hc => by omega) (fun c hc => hc.elim) hk1
    have e12 : (wI μ1 (y + 2) k z).1 12 1 = μ.1 12 1 := by rw [h2.2.1 12 (by unfold scI; omega)]
    refine ⟨_, rfl, h2.gPP hP, enA_off h2 e12 hk2 (fun c hc => ?_) (fun c hc => hc) hA, h2, ?_, ?_, hk2⟩
    · rcases hc with h | h
      · omega
      · exact Or.inr (Or.inr h)
    · rw [wI_eq, ho.2.1 (y + 2) (by unfold scI; omega), hz]
    · rw [h2.2.1 t (by unfold scI; omega)]
  -- behind it
  have tail : ∀ (μ1 : jM) (z : Int32), cOff (scI t) (scL t) μ μ1 → kcI μ1 t T Lw → z = sOw T Lw S lots od a k → J l mX10_priceOf (jZ0 2 G (pI fun x μ' => x = sCost T Lw S lots od a k ∧ cOff (fun c => c = y + 2 ∨ scI t c) (scL t) μ μ' ∧ kcI μ' t T Lw ∧ μ'.1 (y + 2) = upd (μ.1 (y + 2)) k (sOw T Lw S lots od a k))) G 0 0 41 [.ref 12, .int (nI a), .int (nI k), .int (nI (T 3 k)), .null] [.int z] μ1 := by
    intro μ1 z ho hk1 hz
    obtain ⟨μ2, he, hP2, hA2, ho2, hr2, hf2, hk2⟩ := wr μ1 z ho hk1 hz
    have q0' : μ1.2.2 12 0 = some t := by rw [ho.1]; exact q0
    have f4 : ((μ2.1 t 6) >>> (nI k &&& 31)) &&& 1 = nI (T 4 k) := by rw [hf2]; exact g4
    refine b_X10_priceOf_41 (ψ1 := fun x μ' => x = lawV (vrA T S lots od a k) (Lw 1) 99 ∧ cOff (scI t) (scL t) μ2 μ' ∧ kcI μ' t T Lw) hG (ho.gPP hP) (ho.tO ht) (ho.tO hy) q0' ia (by rw [ho.1]; exact hwr) ik (fun h => ?_) (fun h => ?_) (fun h => ?_)
    · rw [ck, ← he] at h ⊢
      rw [f4] at h
      refine ⟨?_, ho2, hk2, hr2⟩
      have : ¬ T 4 k = 1 := fun e => by rw [e] at h; exact absurd h (by decide)
      unfold sCost
      rw [if_neg this, hz, Int32.add_zero]; rfl
    · rw [ck, ← he]
      exact said_en (q := 1) hG hP2 hA2 (by decide) ha hk
    · rw [ck, ← he, f4] at h
      rintro x μ' ⟨rfl, h1, h2⟩
      have e4 : T 4 k = 1 := by
        rcases Nat.le_one_iff_eq_zero_or_eq_one.mp v4 with e | e
        · exact absurd (by rw [e]; rfl) h
        · exact e
      refine b_X10_priceOf_86 hG (h1.gPP hP2) ⟨?_, ho2.trans (h1.mono (fun c hc => Or.inr hc) (fun c hc => hc)), h2, ?_⟩
      · unfold sCost sFears
        rw [if_pos e4, hz]
        unfold sOw
        rw [Int32.add_assoc, Int32.add_comm (lawV (vrA T S lots od a k) (Lw 1) 99), ← Int32.add_assoc]
      · rw [h1.2.1 (y + 2) (by unfold scI; omega)]; exact hr2
  refine b_X10_priceOf_0 (ψ1 := fun x μ' => x = lawV (vrA T S lots od a k) (Lw 1) 99 ∧ cOff (scI t) (scL t) (wI μ (y + 2) k 0) μ' ∧ kcI μ' t T Lw) (ψ2 := fun x μ' => x = lawV (vrA T S lots od a k) (Lw 0) 99 ∧ cOff (scI t) (scL t) μ μ' ∧ kcI μ' t T Lw) hG hP hgr ht hy q0 q5 ik (fun _ => ia) (fun _ => hwr) (fun h h' => ?_) (fun h h' => ?_) (fun h h' => ?_) (fun h => ?_) (fun h => ?_)
  · have hz : (0 : Int32) = sOw T Lw S lots od a k := by unfold sOw; rw [if_neg (fun z => (hsg.mp z) h)]
    obtain ⟨μ2, he, hP2, hA2, ho2, hr2, hf2, hk2⟩ := wr μ 0 cOff.refl hkc hz
    rw [ck, ← he, hf2, g4] at h'
    rw [ck, ← he]
    have : ¬ T 4 k = 1 := fun e => by rw [e] at h'; exact absurd h' (by decide)
    refine ⟨?_, ho2, hk2, hr2⟩
    unfold sCost
    rw [if_neg this, g3, Int32.add_zero, if_neg (fun z => (hsg.mp z) h), Int32.add_zero, Int32.add_zero]
  · have hz : (0 : Int32) = sOw T Lw S lots od a k := by unfold sOw; rw [if_neg (fun z => (hsg.mp z) h)]
    obtain ⟨μ2, he, hP2, hA2, ho2, hr2, hf2, hk2⟩ := wr μ 0 cOff.refl hkc hz
    rw [ck, ← he]
    exact said_en (q := 1) hG hP2 hA2 (by decide) ha hk
  · have hz : (0 : Int32) = sOw T Lw S lots od a k := by unfold sOw; rw [if_neg (fun z => (hsg.mp z) h)]
    obtain ⟨μ2, he, hP2, hA2, ho2, hr2, hf2, hk2⟩ := wr μ 0 cOff.refl hkc hz
    rw [ck, ← he, hf2, g4] at h'
    rw [← he, ck]
    rintro x μ' ⟨rfl, h1, h2⟩
    have e4 : T 4 k = 1 := by
      rcases Nat.le_one_iff_eq_zero_or_eq_one.mp v4 with e | e
      · exact absurd (by rw [e]; rfl) h'
      · exact e
    refine b_X10_priceOf_86 hG (h1.gPP hP2) ⟨?_, ho2.trans (h1.mono (fun c hc => Or.inr hc) (fun c hc => hc)), h2, ?_⟩
    · unfold sCost sFears
      rw [if_pos e4, if_neg (fun z => (hsg.mp z) h), g3, Int32.add_zero, Int32.add_zero]
    · rw [h1.2.1 (y + 2) (by unfold scI; omega)]; exact hr2
  · exact said_en (q := 0) hG hP hA (by decide) ha hk
  · rintro x μ' ⟨rfl, h1, h2⟩
    rw [ck, g3]
    refine tail μ' _ h1 h2 ?_
    unfold sOw
    rw [if_pos (hsg.mpr h)]; rfl
end PriceC
