/-! ROWS: what prices hang on; the class's places -/
theorem sOwes_congr {T : sT} {Lw : Nat → sLaw} {S S' : sR} {lots od : Int32} {a k : Nat} (h65 : S' 65 = S 65) (h67 : S' 67 = S 67) (hk : S' k = S k) : sOwes T Lw S' lots od a k = sOwes T Lw S lots od a k := by
  unfold sOwes vrA sFg sRt; rw [h65, h67, hk]
theorem sFears_congr {T : sT} {Lw : Nat → sLaw} {S S' : sR} {lots od : Int32} {a k : Nat} (h65 : S' 65 = S 65) (h67 : S' 67 = S 67) (hk : S' k = S k) : sFears T Lw S' lots od a k = sFears T Lw S lots od a k := by
  unfold sFears vrA sFg sRt; rw [h65, h67, hk]
theorem sBears_congr {T : sT} {Lw : Nat → sLaw} {S S' : sR} {k : Nat} (h67 : S' 67 = S 67) : sBears T Lw S' k = sBears T Lw S k := by
  unfold sBears vrB; rw [h67]
theorem prow_congr {T : sT} {Lw : Nat → sLaw} {S S' : sR} {lots od lots' od' : Int32} {a k : Nat} (hd : sDn T Lw S' k ↔ sDn T Lw S k) (hg : sGt S' k ↔ sGt S k) (ho : sGt S k → sOwes T Lw S' lots' od' a k = sOwes T Lw S lots od a k) (hf : T 4 k = 1 → sFears T Lw S' lots' od' a k = sFears T Lw S lots od a k) : sPr T Lw S' lots' od' a k = sPr T Lw S lots od a k ∧ sOw T Lw S' lots' od' a k = sOw T Lw S lots od a k := by
  have e1 : sOw T Lw S' lots' od' a k = sOw T Lw S lots od a k := by
    unfold sOw
    by_cases h : sGt S k
    · rw [if_pos h, if_pos (hg.mpr h), ho h]
    · rw [if_neg h, if_neg (fun z => h (hg.mp z))]
  refine ⟨?_, e1⟩
  have e2 : sCost T Lw S' lots' od' a k = sCost T Lw S lots od a k := by
    unfold sOw at e1
    unfold sCost
    rw [e1]
    by_cases h : T 4 k = 1
    · rw [if_pos h, if_pos h, hf h]
    · rw [if_neg h, if_neg h]
  unfold sPr
  by_cases h : sDn T Lw S k
  · rw [if_pos h, if_pos (hd.mpr h)]
  · rw [if_neg h, if_neg (fun z => h (hd.mp z)), e2]
/-- the class's place of a place in the reference's row -/
def cix (i : Nat) : Nat := if i = 67 then 0 else if i = 65 then 1 else if i = 66 then 3 else if i = 64 then 4 else i + 7
theorem cRow_at {S : sR} {od lots th : Int32} {i : Nat} (hi : i < 68) : cRow S od lots th (cix i) = S i := by
  unfold cix
  by_cases h67 : i = 67
  · rw [if_pos h67, h67]; rfl
  · rw [if_neg h67]
    by_cases h65 : i = 65
    · rw [if_pos h65, h65]; rfl
    · rw [if_neg h65]
      by_cases h66 : i = 66
      · rw [if_pos h66, h66]; rfl
      · rw [if_neg h66]
        by_cases h64 : i = 64
        · rw [if_pos h64, h64]; rfl
        · rw [if_neg h64, Nat.add_comm]; exact cRow_w (by omega)
theorem cRow_upd {S : sR} {od lots th x : Int32} {i : Nat} (hi : i < 68) : cRow (upd S i x) od lots th = upd (cRow S od lots th) (cix i) x := by
  funext j
  by_cases e : j = cix i
  · subst e
    rw [cRow_at hi, upd_at, upd_at]
  · rw [upd_ne e]
    have key : ∀ q, cix q = j → upd S i x q = S q := fun q hq => upd_ne (fun z => e (by rw [← z, hq]))
    unfold cRow
    by_cases h0 : j = 0
    · rw [if_pos h0, if_pos h0]; exact key 67 (by rw [h0]; rfl)
    · rw [if_neg h0, if_neg h0]
      by_cases h1 : j = 1
      · rw [if_pos h1, if_pos h1]; exact key 65 (by rw [h1]; rfl)
      · rw [if_neg h1, if_neg h1]
        by_cases h2 : j = 2
        · rw [if_pos h2, if_pos h2]
        · rw [if_neg h2, if_neg h2]
          by_cases h3 : j = 3
          · rw [if_pos h3, if_pos h3]; exact key 66 (by rw [h3]; rfl)
          · rw [if_neg h3, if_neg h3]
            by_cases h4 : j = 4
            · rw [if_pos h4, if_pos h4]; exact key 64 (by rw [h4]; rfl)
            · rw [if_neg h4, if_neg h4]
              by_cases h5 : j = 5
              · rw [if_pos h5, if_pos h5]
              · rw [if_neg h5, if_neg h5]
                by_cases h6 : j = 6
                · rw [if_pos h6, if_pos h6]
                · rw [if_neg h6, if_neg h6]
                  by_cases h7 : j < 71
                  · rw [if_pos h7, if_pos h7]
                    refine key (j - 7) ?_
                    unfold cix
                    rw [if_neg (by omega), if_neg (by omega), if_neg (by omega), if_neg (by omega)]; omega
                  · rw [if_neg h7, if_neg h7]
theorem gPP_wP {μ : jM} {a i : Nat} {x : Option Nat} (h : gP a i = none) (hP : gPP μ) : gPP (wP μ a i x) := by
  intro c f z hz
  show (if c = a then va_up (μ.2.2 a) i x else μ.2.2 c) f = some z
  by_cases hc : c = a
  · subst hc
    rw [if_pos rfl]
    by_cases hf : f = i
    · subst hf; rw [h] at hz; cases hz
    · unfold va_up
      first | (rw [if_neg hf]; exact hP c f z hz) | (simp [hf]; exact hP c f z hz)
  · rw [if_neg hc]; exact hP c f z hz
theorem wP_at {μ : jM} {a i : Nat} {x : Option Nat} : (wP μ a i x).2.2 a i = x := by
  show (if a = a then va_up (μ.2.2 a) i x else μ.2.2 a) i = x
  rw [if_pos rfl]; unfold va_up; simp
theorem wP_o {μ : jM} {a i f : Nat} {x : Option Nat} (h : f ≠ i) : (wP μ a i x).2.2 a f = μ.2.2 a f := by
  show (if a = a then va_up (μ.2.2 a) i x else μ.2.2 a) f = _
  rw [if_pos rfl]; unfold va_up; simp [h]
theorem wP_n {μ : jM} {a i c : Nat} {x : Option Nat} (h : c ≠ a) : (wP μ a i x).2.2 c = μ.2.2 c := by
  show (if c = a then va_up (μ.2.2 a) i x else μ.2.2 c) = _
  rw [if_neg h]
theorem tO_wP {G : jG} {μ : jM} {gl : jG} {pl : Nat → Nat → Option Nat} {t a i : Nat} {x : Option Nat} (h : ∀ c, c < gl.length → t + c ≠ a) (hpl : ∀ c f z, pl c f = some z → c < gl.length) (ht : tO gl pl G μ t) : tO gl pl G (wP μ a i x) t := by
  refine ⟨ht.1, fun c f z hz => ?_⟩
  rw [wP_n (h c (hpl c f z hz))]; exact ht.2 c f z hz
theorem pTold_in : ∀ c f z, pTold c f = some z → c < gTold.length := by
  intro c f z h
  unfold pTold at h
  have : gTold.length = 21 := rfl
  split at h <;> first | (rw [this]; decide) | cases h
theorem pState_in : ∀ c f z, pState c f = some z → c < gState.length := by
  intro c f z h
  unfold pState at h
  have : gState.length = 2 := rfl
  split at h <;> first | (rw [this]; decide) | cases h
/-- what stays from row to row: the text, what its LAWS keep, what ROADS bear, the WAYS -/
def peI (G : jG) (μ : jM) (t : Nat) (T : sT) (Lw : Nat → sLaw) : Prop := tO gTold pTold G μ t ∧ μ.2.2 12 0 = some t ∧ txC μ t T Lw ∧ kcI μ t T Lw ∧ brP μ T Lw ∧ ∀ a, a < T 0 2 → wyK μ (17 + 5 * a) T a
theorem enS_pe {G : jG} {μ : jM} {t r B : Nat} {T : sT} {Lw : Nat → sLaw} {S : sR} {od lots th : Int32} (h : enS G μ t r T Lw S od lots th B) : peI G μ t T Lw := by
  obtain ⟨⟨hW, -, -, -, hb⟩, -, hw⟩ := h
  exact ⟨hW.1, hW.2.1, hW.2.2.2.2.2.1, hW.2.2.2.2.2.2, brS_P hW.2.2.2.2.2.1.2.2.2.2.2 hb, fun a ha => (hw a ha).1⟩
theorem wyK_up1 {μ μ' : jM} {a : Nat} {T : sT} {x : Int32} (h : μ'.1 (17 + 5 * a) = upd (μ.1 (17 + 5 * a)) 1 x) (h1 : μ'.1 (17 + 5 * a + 1) = μ.1 (17 + 5 * a + 1)) (h3 : μ'.1 (17 + 5 * a + 3) = μ.1 (17 + 5 * a + 3)) (hK : wyK μ (17 + 5 * a) T a) : wyK μ' (17 + 5 * a) T a :=
  wyK_mem h1 h3 (by rw [h, upd_ne (by decide)]) (by rw [h, upd_ne (by decide)]) (by rw [h, upd_ne (by decide)]) (by rw [h, upd_ne (by decide)]) hK
section EnterC
variable {l : Launch} {G : jG}
theorem c_X10_enter (hG : gGG G) {μ : jM} (hP : gPP μ) {t s B : Nat} {T : sT} {Lw : Nat → sLaw} {S : sR} {od lots th : Int32} (hp : peI G μ t T Lw) (hs3 : s = 52 ∨ s = 58 ∨ s = 64) (hr : μ.1 (s + 1) = cRow S od lots th) (hg : rgS S B) (hB : B ≤ BB) (hrt : rtS S od) :
    jC0 l mX10_enter 3 G [.ref 12, .ref s] μ (pV fun μ' => enS G μ' t (s + 1) T Lw S od lots th B ∧ cOff (lnI t (T 0 2)) (lnL t) (wP μ 12 5 (some (s + 1))) μ' ∧ ∀ f, f ≠ 1 → f ≠ 4 → μ'.1 12 f = μ.1 12 f) := by
  refine jC0.of' (ls := [.ref 12, .ref s]) rfl rfl rfl (fun _ _ => Nat.le_of_ble_eq_true rfl) ?_
  obtain ⟨ht, q0, hx, hkc, hbr, hways⟩ := id hp
  have hv := hx.2.2.2.2.2
  have h12 := hv.1.2.1
  have h7 := hv.1.2.2.1
  have ht2 := hx.1
  have hs : tO gState pState G μ s := by
    rcases hs3 with rfl | rfl | rfl
    · refine ⟨fun x sh hx => ?_, fun c f x hx => ?_⟩
      · have hx2 : x < 2 := (List.getElem?_eq_some_iff.mp hx).1
        have hx' : x = 0 ∨ x = 1 := by omega
        rcases hx' with rfl | rfl <;> (cases hx; exact hG _ _ rfl)
      · unfold pState at hx
        split at hx
        · split at hx <;> first | (cases hx; exact hP _ _ _ rfl) | cases hx
        · cases hx
    · refine ⟨fun x sh hx => ?_, fun c f x hx => ?_⟩
      · have hx2 : x < 2 := (List.getElem?_eq_some_iff.mp hx).1
        have hx' : x = 0 ∨ x = 1 := by omega
        rcases hx' with rfl | rfl <;> (cases hx; exact hG _ _ rfl)
      · unfold pState at hx
        split at hx
        · split at hx <;> first | (cases hx; exact hP _ _ _ rfl) | cases hx
        · cases hx
    · refine ⟨fun x sh hx => ?_, fun c f x hx => ?_⟩
      · have hx2 : x < 2 := (List.getElem?_eq_some_iff.mp hx).1
        have hx' : x = 0 ∨ x = 1 := by omega
        rcases hx' with rfl | rfl <;> (cases hx; exact hG _ _ rfl)
      · unfold pState at hx
        split at hx
        · split at hx <;> first | (cases hx; exact hP _ _ _ rfl) | cases hx
        · cases hx
  have hgr : G[s + 1]? = some (0, 71) := hs.1 1 _ rfl
  obtain ⟨μ0, h0e⟩ : ∃ μ0, μ0 = wP μ 12 5 (some (s + 1)) := ⟨_, rfl⟩
  have hP0 : gPP μ0 := by rw [h0e]; exact gPP_wP rfl hP
  have e1 : μ0.1 = μ.1 := by rw [h0e]; rfl
  have e2 : μ0.2.1 = μ.2.1 := by rw [h0e]; rfl
  have hW0 : wdC G μ0 t (s + 1) T Lw := by
    refine ⟨?_, ?_, ?_, by omega, hgr, ?_, ?_⟩
    · rw [h0e]; exact tO_wP (fun c hc => by omega) pTold_in ht
    · rw [h0e, wP_o (by decide)]; exact q0
    · rw [h0e, wP_at]
    · unfold txC lwC at hx ⊢; rw [e1, e2]; exact hx
    · unfold kcI at hkc ⊢; rw [e1, e2]; exact hkc
  have hr0 : μ0.1 (s + 1) = cRow S od lots th := by rw [e1]; exact hr
  have hbr0 : brP μ0 T Lw := by unfold brP at hbr ⊢; rw [e1, e2]; exact hbr
  refine b_X10_enter_0 hG hP hs ?_
  rw [← h0e]
  refine b_X10_enter_8 hG hP0 (c_X10_lookAtNight hG hP0 hW0 hr0 hg hB hrt hbr0) ?_
  rintro μ1 ⟨ho1, hA1, hf1, D, n, f, -, -, -, -, hw1, -, -⟩
  have hP1 := ho1.gPP hP0
  have hW1 := hA1.1
  refine b_X10_enter_12 hG hP1 (c_X10_findBroken hG hP1 hW1 (fun k hk => by rw [hA1.2.1]; exact cRow_w (by omega)) hA1.2.2.2.2.1) ?_
  rintro v μ1 ⟨rfl, hbits⟩
  have ho2 : cOff (fun c => c = 12) (fun _ => False) μ1 (wI μ1 12 4 v) := cOff_wI rfl
  have hk2 := kcI_low ho2 ht2 (fun c hc => by omega) (fun c hc => hc.elim) hW1.2.2.2.2.2.2
  have hA2 : enA G (wI μ1 12 4 v) t (s + 1) T Lw S od lots th B := enA_off ho2 (wI_off' (by decide)) hk2 (fun c hc => Or.inl hc) (fun c hc => hc.elim) hA1
  have hP2 := ho2.gPP hP1
  refine b_X10_enter_17 hG hP1 (c_X10_doubt (μ := wI μ1 12 4 v) hG hP2 hA2.1.1 hA2.1.2.1 ht2 hA2.1.2.2.2.2.2.1.2.1.2.2.1 h7 _) ?_
  rintro μ3 ⟨ho3, hw3⟩
  refine b_X10_enter_25 hG (ho3.gPP hP2) ?_
  have n12 : ¬ ∃ a, a < T 0 2 ∧ 12 = 17 + 5 * a := by rintro ⟨a, h1, h2⟩; omega
  have hk3 := kcI_low ho3 ht2 (by rintro c ⟨a, h1, h2⟩; omega) (fun c hc => hc.elim) hk2
  have hA3 : enA G μ3 t (s + 1) T Lw S od lots th B := enA_off ho3 (by rw [ho3.2.1 12 n12]) hk3 (by rintro c ⟨a, h1, h2⟩; omega) (fun c hc => hc.elim) hA2
  refine ⟨⟨hA3, ?_, fun a ha => ?_⟩, ?_, fun g h1 h4 => ?_⟩
  · intro i hi
    rw [ho3.2.1 12 n12, wI_at]; exact hbits i hi
  · have hoff : ∀ c, (¬ ∃ a, a < T 0 2 ∧ c = 17 + 5 * a) → c ≠ 12 → c ≠ 14 → ¬ scI t c → μ3.1 c = μ.1 c := by
      intro c hc h1 h2 h3
      rw [ho3.2.1 c hc, wI_ne h1, ho1.2.1 c (by rintro (z | z | z | z); exact h1 z; exact h2 z; exact h3 z; exact hc z), e1]
    have c1 : ∀ i, 1 ≤ i → i ≤ 4 → μ3.1 (17 + 5 * a + i) = μ.1 (17 + 5 * a + i) := fun i hi hi4 => hoff _ (by rintro ⟨b, h1, h2⟩; omega) (by omega) (by omega) (by unfold scI; omega)
    have hfull : μ3.1 (17 + 5 * a) = upd (μ.1 (17 + 5 * a)) 1 ((μ.1 (17 + 5 * a) 1 ||| D) ||| (-1)) := by
      rw [hw3 a ha, show (wI μ1 12 4 v).1 (17 + 5 * a) = μ1.1 (17 + 5 * a) from wI_ne (by omega), hw1 a ha, upd_at, upd_upd, e1]
    refine ⟨wyK_up1 hfull (c1 1 (by decide) (by decide)) (c1 3 (by decide) (by decide)) (hways a ha), fun k hk hb => ?_⟩
    rw [hfull, upd_at, b_or, b_m1 k (by omega), Bool.or_true] at hb
    cases hb
  · exact (ho1.trans (ho2.mono (fun c hc => Or.inl hc) (fun c hc => hc.elim))).trans (ho3.mono (fun c hc => Or.inr (Or.inr (Or.inr hc))) (fun c hc => hc.elim))
  · rw [ho3.2.1 12 n12, wI_off' h4, hf1 g h1 h4, e1]
theorem c_X10_changeGates (hG : gGG G) {μ : jM} (hP : gPP μ) {t r B : Nat} {T : sT} {Lw : Nat → sLaw} {S : sR} {od lots th : Int32} (hS : enS G μ t r T Lw S od lots th B) (x : Int32) :
    jC0 l mX10_changeGates 1 G [.ref 12, .int x] μ (pV fun μ' => enS G μ' t r T Lw (upd S 64 x) od lots th B ∧ cOff (fun c => c = r ∨ ∃ a, a < T 0 2 ∧ c = 17 + 5 * a) (fun _ => False) μ μ') := by
  refine jC0.of' (ls := [.ref 12, .int x]) rfl rfl rfl (fun _ _ => Nat.le_of_ble_eq_true rfl) ?_
  obtain ⟨hA, hD, hWs⟩ := id hS
  obtain ⟨hW, hr, ⟨hg, hB, hrt⟩, hn, hb⟩ := id hA
  obtain ⟨ht, q0, q5, hr3, hgr, hx, hkc⟩ := id hW
  have hv := hx.2.2.2.2.2
  have h12 := hv.1.2.1
  have h7 := hv.1.2.2.1
  have ht2 := hx.1
  have r4 : μ.1 r 4 = S 64 := by rw [hr]; rfl
  refine b_X10_changeGates_0 hG hP hgr q5 (c_X10_doubt hG hP ht q0 ht2 hx.2.1.2.2.1 h7 _) ?_
  rintro μ1 ⟨ho1, hw1⟩
  have n12 : ¬ ∃ a, a < T 0 2 ∧ 12 = 17 + 5 * a := by rintro ⟨a, h1, h2⟩; omega
  refine b_X10_changeGates_12 hG (ho1.gPP hP) hgr (by rw [ho1.1]; exact q5) ?_
  have ho2 : cOff (fun c => c = r ∨ ∃ a, a < T 0 2 ∧ c = 17 + 5 * a) (fun _ => False) μ (wI μ1 r 4 x) := (ho1.mono (fun c hc => Or.inr hc) (fun c hc => hc)).trans (cOff_wI (Or.inl rfl))
  have hk2 := kcI_low ho2 ht2 (by rintro c (h | ⟨a, h1, h2⟩) <;> omega) (fun c hc => hc.elim) hkc
  have hW2 : wdC G (wI μ1 r 4 x) t r T Lw := wdC_off ho2 hk2 (by rintro c (h | ⟨a, h1, h2⟩) <;> omega) (fun c hc => hc.elim) hW
  have e12 : (wI μ1 r 4 x).1 12 = μ.1 12 := ho2.2.1 12 (by rintro (h | h); omega; exact n12 h)
  have eL : (wI μ1 r 4 x).2.1 12 = μ.2.1 12 := ho2.2.2 12 (fun z => z)
  have u65 : upd S 64 x 65 = S 65 := upd_ne (by decide)
  have u67 : upd S 64 x 67 = S 67 := upd_ne (by decide)
  have uk : ∀ k, k < 24 → upd S 64 x k = S k := fun k hk => upd_ne (by omega)
  have hdn : ∀ k, k < 12 → (sDn T Lw (upd S 64 x) k ↔ sDn T Lw S k) := fun k hk => by
    unfold sDn; rw [sBears_congr u67, uk k (by omega)]
  refine ⟨⟨⟨hW2, ?_, ⟨⟨by rw [u67]; exact hg.1, fun k hk => by rw [uk k hk]; exact hg.2 k hk⟩, hB, by unfold rtS; rw [u65]; exact hrt⟩, ?_, ?_⟩, ?_, fun a ha => ?_⟩, ho2⟩
  · rw [wI_eq, ho1.2.1 r (by rintro ⟨a, h1, h2⟩; omega), hr, cRow_upd (by decide)]; rfl
  · refine nkS_off (μ := μ) (by rw [e12]) (by rw [eL]) ?_
    obtain ⟨n, f, g1, g2, g3, g4, g5⟩ := hn
    exact ⟨n, f, by rw [u67]; exact g1, g2, g3, by unfold sFg; rw [u67]; exact g4, g5⟩
  · refine brS_off (μ := μ) (ho2.2.1 14 (by rintro (h | ⟨a, h1, h2⟩) <;> omega)) (by rw [eL]) ?_
    obtain ⟨g0, n, f, g1, g2, g3, g4⟩ := hb
    exact ⟨fun k hk => by rw [sBears_congr u67]; exact g0 k hk, n, f, by rw [u67]; exact g1, g2, g3, g4⟩
  · intro i hi
    rw [e12, hD i hi]
    constructor
    · rintro ⟨z1, z2⟩; exact ⟨z1, (hdn i (by omega)).mpr z2⟩
    · rintro ⟨z1, z2⟩; exact ⟨z1, (hdn i (by omega)).mp z2⟩
  · have c1 : ∀ i, 1 ≤ i → i ≤ 4 → (wI μ1 r 4 x).1 (17 + 5 * a + i) = μ.1 (17 + 5 * a + i) := fun i hi hi4 => ho2.2.1 _ (by rintro (h | ⟨b, h1, h2⟩) <;> omega)
    have hfull : (wI μ1 r 4 x).1 (17 + 5 * a) = upd (μ.1 (17 + 5 * a)) 1 (μ.1 (17 + 5 * a) 1 ||| (μ.1 r 4 ^^^ x)) := by
      rw [wI_ne (by omega), hw1 a ha]
    refine ⟨wyK_up1 hfull (c1 1 (by decide) (by decide)) (c1 3 (by decide) (by decide)) (hWs a ha).1, fun k hk hbt => ?_⟩
    rw [hfull, upd_at, b_or, r4, b_xor] at hbt
    have hb1 : bt (μ.1 (17 + 5 * a) 1) k = false := by cases z : bt (μ.1 (17 + 5 * a) 1) k; rfl; (rw [z] at hbt; cases hbt)
    rw [hb1, Bool.false_or] at hbt
    have hgt : sGt (upd S 64 x) k ↔ sGt S k := by
      rw [sGt_bt (by omega), sGt_bt (by omega), upd_at]
      revert hbt
      cases bt (S 64) k <;> cases bt x k <;> simp
    obtain ⟨p1, p2⟩ := prow_congr (T := T) (Lw := Lw) (lots := lots) (od := od) (a := a) (hdn k (by omega)) hgt (fun _ => sOwes_congr u65 u67 (uk k (by omega))) (fun _ => sFears_congr u65 u67 (uk k (by omega)))
    have := (hWs a ha).2 k hk hb1
    unfold prE at this ⊢
    rw [c1 1 (by decide) (by decide), c1 2 (by decide) (by decide), p1, p2, hdn k (by omega)]
    exact this
end EnterC
