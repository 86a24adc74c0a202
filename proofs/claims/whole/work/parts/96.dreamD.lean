/-! THE CLASS: the ROAD to watch; what is learnt of a set -/
theorem sNn_64 {T : sT} {Lw : Nat → sLaw} (hv : vT T Lw) {lots od th : Int32} {S : sR} : ∀ n, sNn T Lw lots od th n S 64 = S 64 := by
  intro n
  induction n with
  | zero => rfl
  | succ n ih => unfold sNn sNt; rw [addR_ne (by decide), sNs_keep hv (Or.inl rfl) _ (Nat.le_refl _), ih]
section DreamD
variable {l : Launch} {G : jG}
theorem c_X0_roadThatLeavesFewest (hG : gGG G) {μ : jM} (hP : gPP μ) {t c n : Nat} {T : sT} {Lw : Nat → sLaw} {D : List (Nat × Nat × Nat)} (ht : tO gTold pTold G μ t) (q0 : μ.2.2 12 0 = some t) (hx : txC μ t T Lw) (hs : ∀ k, k < T 0 1 → μ.1 69 k = nI (ctP (fun s => soP T Lw D c s ∧ seB T Lw s n k = true) (2 ^ T 0 2))) : jC0 l mX0_roadThatLeavesFewest 1 G [.ref 63, .int (nI (ctP (soP T Lw D c) (2 ^ T 0 2)))] μ (pI fun z μ' => μ' = μ ∧ z = (wtF T Lw D c n (T 0 1)).1) := by
  refine jC0.of' (ls := [.ref 63, .int (nI (ctP (soP T Lw D c) (2 ^ T 0 2))), .null, .null, .null, .null]) rfl rfl rfl (fun _ _ => Nat.le_of_ble_eq_true rfl) ?_
  have hv := hx.2.2.2.2.2
  have h12 := hv.1.2.1
  have h7 := hv.1.2.2.1
  have hpw := pow_le (T 0 2) (by omega)
  have e1 : μ.1 t 1 = nI (T 0 1) := hx.2.1.2.1
  have hA := ctP_le (P := soP T Lw D c) (2 ^ T 0 2)
  refine b_X0_roadThatLeavesFewest_0 hG hP ?_
  have loop : ∀ k, k ≤ T 0 1 → ∀ b w : Int32, b = (wtF T Lw D c n k).1 → w = nI (wtF T Lw D c n k).2 → (wtF T Lw D c n k).2 ≤ 129 → J l mX0_roadThatLeavesFewest (jZ0 1 G (pI fun z μ' => μ' = μ ∧ z = (wtF T Lw D c n (T 0 1)).1)) G 0 0 10 [.ref 63, .int (nI (ctP (soP T Lw D c) (2 ^ T 0 2))), .int w, .int b, .int (nI k), .null] [] μ := by
    refine up_loop (T 0 1) ?_ (fun k hk ih => ?_)
    · intro b w hb hw _
      have hle : μ.1 t 1 ≤ nI (T 0 1) := by rw [e1]; exact nI_le (Nat.le_refl _) (by omega)
      exact b_X0_roadThatLeavesFewest_10 hG hP ht q0 (fun _ => ⟨rfl, hb⟩) (fun h => absurd hle h) (fun h => absurd hle h) (fun h => absurd hle h) (fun h => absurd hle h)
    · intro b w hb hw h129
      have hgt : ¬ μ.1 t 1 ≤ nI k := by rw [e1]; exact nI_ge hk (by omega)
      have ck : (nI k).toNatClampNeg = k := nI_clamp (by omega)
      have hK := ctP_le (P := fun s => soP T Lw D c s ∧ seB T Lw s n k = true) (2 ^ T 0 2)
      have hKA : ctP (fun s => soP T Lw D c s ∧ seB T Lw s n k = true) (2 ^ T 0 2) ≤ ctP (soP T Lw D c) (2 ^ T 0 2) := ctP_mono (fun i hi => hi.1) _
      have hwl := wrV_le (T := T) (Lw := Lw) (D := D) (c := c) (n := n) (k := k) h7
      have hwr : wrV T Lw D c n k = max (ctP (fun s => soP T Lw D c s ∧ seB T Lw s n k = true) (2 ^ T 0 2)) (ctP (soP T Lw D c) (2 ^ T 0 2) - ctP (fun s => soP T Lw D c s ∧ seB T Lw s n k = true) (2 ^ T 0 2)) := rfl
      have e69 := hs k hk
      generalize ctP (fun s => soP T Lw D c s ∧ seB T Lw s n k = true) (2 ^ T 0 2) = p at *
      generalize ctP (soP T Lw D c) (2 ^ T 0 2) = q at *
      have e4 := (hx.2.2.1 k hk).2.2.2
      have h4k := (hv.2.1 k hk).2.2.2.2.2
      have g4 : ((((μ.1 t 6) >>> (nI k &&& 31)) &&& 1) = (0)) ↔ ¬ T 4 k = 1 := by
        rw [e4]; exact (nI_eq (b := 0) (by omega) (by decide)).trans (by omega)
      have emx : (if (μ.1 69 (nI k).toNatClampNeg) < (nI q - (μ.1 69 (nI k).toNatClampNeg)) then (nI q - (μ.1 69 (nI k).toNatClampNeg)) else (μ.1 69 (nI k).toNatClampNeg)) = nI (wrV T Lw D c n k) := by
        rw [ck, e69, nI_subN hKA, hwr]
        have hlt : (nI p < nI (q - p)) ↔ p < q - p := by rw [i32_lt, nI_toInt (by omega), nI_toInt (by omega)]; omega
        by_cases h : p < q - p
        · rw [if_pos (hlt.mpr h), Nat.max_eq_right (by omega)]
        · rw [if_neg (fun z => h (hlt.mp z)), Nat.max_eq_left (by omega)]
      have cmp : (nI (wtF T Lw D c n k).2 ≤ nI (wrV T Lw D c n k)) ↔ (wtF T Lw D c n k).2 ≤ wrV T Lw D c n k := nI_leI (by omega) (by omega)
      refine b_X0_roadThatLeavesFewest_10 hG hP ht q0 (fun h => absurd h hgt) (fun _ => vp_in_nI (by omega) (by decide)) (fun _ h => ?_) (fun _ h h2 => ?_) (fun _ h h2 => ?_)
      · rw [nI_inc]
        have he := wtF_no (T := T) (Lw := Lw) (D := D) (c := c) (n := n) (k := k) (fun z => g4.mp h z.1)
        exact ih b w (by rw [he]; exact hb) (by rw [he]; exact hw) (by rw [he]; exact h129)
      · rw [emx, hw, cmp] at h2
        rw [nI_inc]
        have he := wtF_no (T := T) (Lw := Lw) (D := D) (c := c) (n := n) (k := k) (fun z => by have := z.2; omega)
        exact ih b w (by rw [he]; exact hb) (by rw [he]; exact hw) (by rw [he]; exact h129)
      · rw [emx, hw, cmp] at h2
        rw [emx, nI_inc]
        have hf : T 4 k = 1 := Classical.byContradiction (fun z => h (g4.mpr z))
        have he := wtF_yes (T := T) (Lw := Lw) (D := D) (c := c) (n := n) (k := k) ⟨hf, by omega⟩
        exact ih (nI k) (nI (wrV T Lw D c n k)) (by rw [he]) (by rw [he]) (by rw [he]; show wrV T Lw D c n k ≤ 129; omega)
  exact loop 0 (Nat.zero_le _) (-2) 129 rfl rfl (Nat.le_refl _)
theorem c_X0_roadToWatch (hG : gGG G) {μ : jM} (hP : gPP μ) {t c n m so : Nat} {T : sT} {Lw : Nat → sLaw} {D : List (Nat × Nat × Nat)} (ht : tO gTold pTold G μ t) (q0 : μ.2.2 12 0 = some t) (hx : txC μ t T Lw) (hd : dreamC μ D) (hc : c ≤ D.length) (hok : ∀ d ∈ D, d.1 < T 0 1 ∧ d.2.1 ≤ 30 ∧ d.2.2 ≤ 1) (hlast : ∀ i, i < c → ∀ d, D[i]? = some d → d.2.1 < m) (hnm : n < m) (hso : 167 ≤ so) (hkn : knC G μ T Lw so m) : jC0 l mX0_roadToWatch 2 G [.ref 63, .int (nI c), .int (nI n)] μ (pI fun z μ' => z = (wtF T Lw D c n (T 0 1)).1 ∧ cOff (fun c => c = 69) (fun _ => False) μ μ') := by
  refine jC0.of' (ls := [.ref 63, .int (nI c), .int (nI n), .null, .null, .null, .null]) rfl rfl rfl (fun _ _ => Nat.le_of_ble_eq_true rfl) ?_
  have hv := hx.2.2.2.2.2
  have h12 := hv.1.2.1
  have h7 := hv.1.2.2.1
  have ht2 := hx.1
  have hpw := pow_le (T 0 2) (by omega)
  have h128 : 2 ^ T 0 2 ≤ 2 ^ 7 := Nat.pow_le_pow_right (by decide) h7
  refine b_X0_roadToWatch_0 hG hP (c_fill_II hG hP (hG 69 _ rfl) (by decide) 0) ?_
  rintro μ1 ⟨F, rfl, hF, -⟩
  have o1 : cOff (fun c => c = 69) (fun _ => False) μ (sI μ 69 F) := cOff_sI rfl
  have fr : ∀ {μ' : jM}, cOff (fun c => c = 69) (fun _ => False) μ μ' → gPP μ' ∧ tO gTold pTold G μ' t ∧ μ'.2.2 12 0 = some t ∧ txC μ' t T Lw ∧ dreamC μ' D ∧ knC G μ' T Lw so m := fun {μ'} ho => by
    refine ⟨ho.gPP hP, ho.tO ht, by rw [ho.1]; exact q0, txC_off ho hx (fun c h1 h2 h3 => by omega) (fun c h1 h2 h3 => h3.elim), ?_, ?_⟩
    · unfold dreamC at hd ⊢; rw [ho.2.1 63 (by decide), ho.2.1 66 (by decide), ho.2.1 67 (by decide), ho.2.1 68 (by decide)]; exact hd
    · unfold knC at hkn ⊢; rw [ho.1, ho.2.1 so (by omega)]; exact hkn
  obtain ⟨P1, t1, q1, x1, d1, k1⟩ := fr o1
  refine b_X0_roadToWatch_8 (μ := sI μ 69 F) hG P1 t1 q1 ?_
  rw [x1.2.1.2.2.1, pow_sh _ (by omega)]
  obtain ⟨PA, hPA⟩ : ∃ PA : Nat → Prop, PA = soP T Lw D c := ⟨_, rfl⟩
  obtain ⟨PK, hPK⟩ : ∃ PK : Nat → Nat → Prop, PK = fun k s => soP T Lw D c s ∧ seB T Lw s n k = true := ⟨_, rfl⟩
  have loop : ∀ s, s ≤ 2 ^ T 0 2 → ∀ μ2, cOff (fun c => c = 69) (fun _ => False) μ μ2 → (∀ k, k < T 0 1 → μ2.1 69 k = nI (ctP (PK k) s)) → J l mX0_roadToWatch (jZ0 2 G (pI fun z μ' => z = (wtF T Lw D c n (T 0 1)).1 ∧ cOff (fun c => c = 69) (fun _ => False) μ μ')) G 0 0 27 [.ref 63, .int (nI c), .int (nI n), .int (nI (ctP PA s)), .int (nI (2 ^ T 0 2)), .int (nI s), .null] [] μ2 := by
    refine up_loop (2 ^ T 0 2) ?_ (fun s hs ih => ?_)
    · intro μ2 ho2 hk2
      obtain ⟨P2, t2, q2, x2, d2, k2⟩ := fr ho2
      have hle : nI (2 ^ T 0 2) ≤ nI (2 ^ T 0 2) := nI_le (Nat.le_refl _) (by omega)
      refine b_X0_roadToWatch_27 (ψ1 := fun _ _ => True) hG P2 (fun _ => by rw [hPA]; exact c_X0_roadThatLeavesFewest hG P2 t2 q2 x2 (fun k hk => by rw [hk2 k hk, hPK])) (fun _ => ?_) (fun h => absurd hle h) (fun h => absurd hle h)
      rintro z μ3 ⟨rfl, rfl⟩
      exact b_X0_roadToWatch_110 hG P2 ⟨rfl, ho2⟩
    · intro μ2 ho2 hk2
      obtain ⟨P2, t2, q2, x2, d2, k2⟩ := fr ho2
      have hgt : ¬ nI (2 ^ T 0 2) ≤ nI s := nI_ge hs (by omega)
      refine b_X0_roadToWatch_27 (ψ0 := fun _ _ => True) hG P2 (fun h => absurd h hgt) (fun h => absurd h hgt) (fun _ => c_X0_mayBe hG P2 d2 hc hok h12 h7 hlast k2 hs) (fun _ => ?_)
      rintro z μ3 ⟨rfl, ⟨rfl, hR⟩ | ⟨rfl, hR⟩⟩
      · have hpa : PA s := by rw [hPA]; exact hR
        refine b_X0_roadToWatch_41 hG P2 (fun h => absurd h (by decide)) (fun _ => ?_)
        rw [nI_inc, ← ctP_yes hpa]
        have inner : ∀ k, k ≤ T 0 1 → ∀ μ4, cOff (fun c => c = 69) (fun _ => False) μ μ4 → (∀ j, j < k → μ4.1 69 j = nI (ctP (PK j) (s + 1))) → (∀ j, k ≤ j → j < T 0 1 → μ4.1 69 j = nI (ctP (PK j) s)) → J l mX0_roadToWatch (jZ0 2 G (pI fun z μ' => z = (wtF T Lw D c n (T 0 1)).1 ∧ cOff (fun c => c = 69) (fun _ => False) μ μ')) G 0 0 50 [.ref 63, .int (nI c), .int (nI n), .int (nI (ctP PA (s + 1))), .int (nI (2 ^ T 0 2)), .int (nI s), .int (nI k)] [] μ4 := by
          refine up_loop (T 0 1) ?_ (fun k hk ihk => ?_)
          · intro μ4 ho4 hlo hhi
            obtain ⟨P4, t4, q4, x4, d4, k4⟩ := fr ho4
            have hle : μ4.1 t 1 ≤ nI (T 0 1) := by rw [x4.2.1.2.1]; exact nI_le (Nat.le_refl _) (by omega)
            refine b_X0_roadToWatch_50 hG P4 k4.2.1 t4 q4 k4.1 (fun _ => ?_) (fun h => absurd hle h) (fun h => absurd hle h) (fun h => absurd hle h)
            rw [nI_inc]
            exact ih μ4 ho4 hlo
          · intro μ4 ho4 hlo hhi
            obtain ⟨P4, t4, q4, x4, d4, k4⟩ := fr ho4
            have hgt : ¬ μ4.1 t 1 ≤ nI k := by rw [x4.2.1.2.1]; exact nI_ge hk (by omega)
            have ck : (nI k).toNatClampNeg = k := nI_clamp (by omega)
            have h31 := k4.2.2.1
            have ex : (nI n * 128) + nI s = nI (128 * n + s) := by rw [show (128 : Int32) = nI 128 from rfl, pk_mul, nI_add, Nat.mul_comm]
            have cx : ((nI n * 128) + nI s).toNatClampNeg = 128 * n + s := by rw [ex]; exact nI_clamp (by omega)
            have hbit := k4.2.2.2 n hnm s hs k hk
            refine b_X0_roadToWatch_50 hG P4 k4.2.1 t4 q4 k4.1 (fun h => absurd h hgt) (fun _ => vp_in_nI (by omega) (by decide)) (fun _ => by rw [ex]; exact vp_in_nI (by omega) (by decide)) (fun _ => ?_)
            rw [ck, cx, nI_inc, hhi k (Nat.le_refl _) hk, sh1 (by omega)]
            have ev : nI (ctP (PK k) s) + (if bt (μ4.1 so (128 * n + s)) k = true then (1 : Int32) else 0) = nI (ctP (PK k) (s + 1)) := by
              by_cases hb : seB T Lw s n k = true
              · rw [if_pos (hbit.mpr hb), nI_inc, ctP_yes (by rw [hPK]; exact ⟨hR, hb⟩)]
              · rw [if_neg (fun z => hb (hbit.mp z)), Int32.add_zero, ctP_no (by rw [hPK]; exact fun z => hb z.2)]
            rw [ev]
            refine ihk _ (ho4.trans (cOff_wI rfl)) (fun j hj => ?_) (fun j h1 h2 => by rw [wI_off' (by omega)]; exact hhi j (by omega) h2)
            by_cases e : j = k
            · rw [e, wI_at]
            · rw [wI_off' e]; exact hlo j (by omega)
        exact inner 0 (Nat.zero_le _) μ3 ho2 (fun j hj => by omega) (fun j _ h2 => hk2 j h2)
      · have hpa : ¬ PA s := by rw [hPA]; exact hR
        refine b_X0_roadToWatch_41 hG P2 (fun _ => ?_) (fun h => absurd rfl h)
        rw [nI_inc, ← ctP_no hpa]
        exact ih μ3 ho2 (fun k hk => by rw [hk2 k hk, ctP_no (by rw [hPK]; exact fun z => hR z.1)])
  have h0 : nI (ctP PA 0) = 0 := rfl
  have := loop 0 (Nat.zero_le _) (sI μ 69 F) o1 (fun k hk => by rw [sI_eq, hF k (by omega)]; rfl)
  exact this
end DreamD
