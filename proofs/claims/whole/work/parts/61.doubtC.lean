/-! DOUBT; what is BROKEN -/
theorem lawN_uses {T : sT} {Lw : Nat → sLaw} {q a k n1 f1 r1 w1 n2 f2 r2 w2 : Nat} (g3 : (uL (Lw q) 3 && vsQ q 3) = true → f1 = f2) (g4 : (uL (Lw q) 4 && vsQ q 4) = true → r1 = r2) (g6 : (uL (Lw q) 6 && vsQ q 6) = true → w1 = w2) (g8 : (uL (Lw q) 8 && vsQ q 8) = true → n1 = n2) : lawN T Lw q a k n1 f1 r1 w1 = lawN T Lw q a k n2 f2 r2 w2 := by
  unfold lawN
  rw [lE_uses (Lw q) (fun i hi => ?_)]
  unfold vrV
  by_cases hv : vsQ q i = true
  · rw [if_pos hv, if_pos hv]
    unfold vrN
    by_cases e3 : i = 3
    · subst e3; rw [g3 (by rw [hi, hv]; rfl)]; rfl
    · by_cases e4 : i = 4
      · subst e4; rw [g4 (by rw [hi, hv]; rfl)]; rfl
      · by_cases e6 : i = 6
        · subst e6; rw [g6 (by rw [hi, hv]; rfl)]; rfl
        · by_cases e8 : i = 8
          · subst e8; rw [g8 (by rw [hi, hv]; rfl)]; rfl
          · exact v9_off _ _ _ _ _ _ _ _ _ _ _ _ _ i e3 e4 e6 e8
  · rw [if_neg hv, if_neg hv]
theorem ky00 {n f : Nat} : ky n f 0 0 = n * 2 ^ 32 + f * 2 ^ 28 := by unfold ky; omega
theorem xor_and {x y m : Int64} (h : (x ^^^ y) &&& m = 0) : x &&& m = y &&& m := by
  apply Int64.toBitVec_inj.mp
  apply BitVec.eq_of_getLsbD_eq
  intro i hi
  have h1 : ((x ^^^ y) &&& m).toBitVec.getLsbD i = false := by rw [h]; exact BitVec.getLsbD_zero
  rw [and_bit, Int64.toBitVec_xor, BitVec.getLsbD_xor] at h1
  rw [and_bit, and_bit]
  revert h1
  cases x.toBitVec.getLsbD i <;> cases y.toBitVec.getLsbD i <;> cases m.toBitVec.getLsbD i <;> simp
theorem wear_mask : ∀ b3 b4 b6 b8 : Bool, (16777215 : Int64) &&& mkB b3 b4 b6 b8 = 0 → b6 = false := by decide +kernel
/-- on GHOSTS' WAYS, more ROADS doubtful -/
def dbR (n : Nat) (D : Int32) (μ μ' : jM) : Prop := cOff (fun c => ∃ a, a < n ∧ c = 17 + 5 * a) (fun _ => False) μ μ' ∧ ∀ a, a < n → μ'.1 (17 + 5 * a) = upd (μ.1 (17 + 5 * a)) 1 (μ.1 (17 + 5 * a) 1 ||| D)
theorem upd_self {f : Nat → Int32} {i : Nat} : upd f i (f i) = f := by funext j; unfold upd; split <;> simp_all
theorem upd_upd {f : Nat → Int32} {i : Nat} {x z : Int32} : upd (upd f i x) i z = upd f i z := by funext j; unfold upd; split <;> simp_all
theorem dbR.refl0 {n : Nat} {μ : jM} : dbR n 0 μ μ := ⟨cOff.refl, fun a _ => by rw [Int32.or_zero, upd_self]⟩
theorem dbR.trans {n : Nat} {D1 D2 : Int32} {μ μ1 μ2 : jM} (h1 : dbR n D1 μ μ1) (h2 : dbR n D2 μ1 μ2) : dbR n (D1 ||| D2) μ μ2 := by
  refine ⟨h1.1.trans h2.1, fun a ha => ?_⟩
  rw [h2.2 a ha, h1.2 a ha, upd_at, upd_upd, Int32.or_assoc]
section DoubtC
variable {l : Launch} {G : jG}
theorem c_X10_doubt (hG : gGG G) {μ : jM} (hP : gPP μ) {t n : Nat} (ht : tO gTold pTold G μ t) (q0 : μ.2.2 12 0 = some t) (htt : t = 70 ∨ t = 91) (hn : μ.1 t 2 = nI n) (hn7 : n ≤ 7) (D : Int32) :
    jC0 l mX10_doubt 0 G [.ref 12, .int D] μ (pV (dbR n D μ)) := by
  refine jC0.of' (ls := [.ref 12, .int D, .null]) rfl rfl rfl (fun _ _ => Nat.le_of_ble_eq_true rfl) ?_
  refine b_X10_doubt_0 hG hP ?_
  by_cases hD : D = 0
  · subst hD
    exact b_X10_doubt_2 (y := 17) hG hP ht (tO_way hG hP (a := 0) (by decide)) q0 (fun _ => dbR.refl0) (fun h => absurd rfl h) (fun h => absurd rfl h) (fun h => absurd rfl h) (fun h => absurd rfl h)
  · have loop : ∀ i, i ≤ n → ∀ (μ1 : jM), cOff (fun c => ∃ a, a < n ∧ c = 17 + 5 * a) (fun _ => False) μ μ1 → (∀ a, a < i → μ1.1 (17 + 5 * a) = upd (μ.1 (17 + 5 * a)) 1 (μ.1 (17 + 5 * a) 1 ||| D)) → (∀ a, i ≤ a → μ1.1 (17 + 5 * a) = μ.1 (17 + 5 * a)) → J l mX10_doubt (jZ0 0 G (pV (dbR n D μ))) G 0 0 2 [.ref 12, .int D, .int (nI i)] [] μ1 := by
      refine up_loop n ?_ (fun i hi ih => ?_)
      · intro μ1 ho h1 h2
        have hP1 := ho.gPP hP
        have hn1 : μ1.1 t 2 = nI n := by rw [ho.2.1 t (by rintro ⟨a, h3, h4⟩; omega)]; exact hn
        have hle : μ1.1 t 2 ≤ nI n := by rw [hn1]; exact nI_le (Nat.le_refl _) (by omega)
        exact b_X10_doubt_2 (y := 17) hG hP1 (ho.tO ht) (tO_way hG hP1 (a := 0) (by decide)) (by rw [ho.1]; exact q0) (fun h => absurd h hD) (fun _ _ => ⟨ho, h1⟩) (fun _ h => absurd hle h) (fun _ h => absurd hle h) (fun _ h => absurd hle h)
      · intro μ1 ho h1 h2
        have hP1 := ho.gPP hP
        have hn1 : μ1.1 t 2 = nI n := by rw [ho.2.1 t (by rintro ⟨a, h3, h4⟩; omega)]; exact hn
        have hgt : ¬ μ1.1 t 2 ≤ nI i := by rw [hn1]; exact nI_ge hi (by omega)
        refine b_X10_doubt_2 (y := 17 + 5 * i) hG hP1 (ho.tO ht) (tO_way hG hP1 (by omega)) (by rw [ho.1]; exact q0) (fun h => absurd h hD) (fun _ h => absurd h hgt) (fun _ _ => vp_in_nI (by omega) (by decide)) (fun _ _ => by rw [nI_clamp (by omega)]; exact way_ref hP1 (by omega)) (fun _ _ => ?_)
        rw [nI_inc]
        refine ih _ (ho.trans (cOff_wI ⟨i, hi, rfl⟩)) (fun a ha => ?_) (fun a ha => ?_)
        · by_cases hai : a = i
          · subst hai
            rw [wI_eq, h2 a (Nat.le_refl _)]
          · rw [wI_ne (by omega)]; exact h1 a (by omega)
        · rw [wI_ne (by omega)]; exact h2 a (by omega)
    exact loop 0 (by omega) μ cOff.refl (fun a ha => by omega) (fun _ _ => rfl)
theorem c_X10_doubtBy (hG : gGG G) {μ : jM} (hP : gPP μ) {t r : Nat} {T : sT} {Lw : Nat → sLaw} (hW : wdC G μ t r T Lw) (ch : Int64) (x : Int32) :
    jC0 l mX10_doubtBy 1 G [.ref 12, .long ch, .int x] μ (pV fun μ' => ∃ D, dbR (T 0 2) D μ μ' ∧ ∀ i, i < 32 → (bt D i = true ↔ ((¬ ch &&& mkL 0 (Lw 0) = 0 ∧ bt (μ.1 r 4) i = true) ∨ (¬ ch &&& mkL 1 (Lw 1) = 0 ∧ bt (μ.1 t 6) i = true)) ∧ bt x i = true)) := by
  refine jC0.of' (ls := [.ref 12, .long ch, .null, .int x, .null]) rfl rfl rfl (fun _ _ => Nat.le_of_ble_eq_true rfl) ?_
  obtain ⟨ht, q0, q5, hr3, hgr, hx, hkc⟩ := id hW
  have hv := hx.2.2.2.2.2
  have h7 := hv.1.2.2.1
  have hng := hx.2.1.2.2.1
  have m0 : μ.2.1 (t + 9) 0 = mkL 0 (Lw 0) := (hx.2.2.2.2.1 0 (by decide)).2.1
  have m1 : μ.2.1 (t + 13) 0 = mkL 1 (Lw 1) := (hx.2.2.2.2.1 1 (by decide)).2.1
  have hd := fun D => c_X10_doubt (l := l) hG hP ht q0 hx.1 hng h7 D
  refine b_X10_doubtBy_0 hG hP hgr ht q0 q5 (fun _ _ => hd _) (fun h0 h1 μ' h => b_X10_doubtBy_68 hG (h.1.gPP hP) ⟨_, h, fun i hi => ?_⟩) (fun _ _ => hd _) (fun h0 h1 μ' h => b_X10_doubtBy_68 hG (h.1.gPP hP) ⟨_, h, fun i hi => ?_⟩) (fun _ _ => hd _) (fun h0 h1 μ' h => b_X10_doubtBy_68 hG (h.1.gPP hP) ⟨_, h, fun i hi => ?_⟩) (fun _ _ => hd _) (fun h0 h1 μ' h => b_X10_doubtBy_68 hG (h.1.gPP hP) ⟨_, h, fun i hi => ?_⟩)
  all_goals
    rw [lgc0, m0] at h0
    rw [lgc0, m1] at h1
    simp [b_and, b_or, b_0, h0, h1]
theorem c_X10_findBroken (hG : gGG G) {μ : jM} (hP : gPP μ) {t r : Nat} {T : sT} {Lw : Nat → sLaw} {S : sR} (hW : wdC G μ t r T Lw) (hw : ∀ k, k < T 0 1 → μ.1 r (7 + k) = S k) (hb : ∀ k, k < T 0 1 → μ.1 14 k = sBears T Lw S k) :
    jC0 l mX10_findBroken 0 G [.ref 12] μ (pI fun x μ' => μ' = μ ∧ ∀ i, i < 32 → (bt x i = true ↔ (i < T 0 1 ∧ sDn T Lw S i))) := by
  refine jC0.of' (ls := [.ref 12, .null, .null]) rfl rfl rfl (fun _ _ => Nat.le_of_ble_eq_true rfl) ?_
  obtain ⟨ht, q0, q5, hr3, hgr, hx, hkc⟩ := id hW
  have h12 := hx.2.2.2.2.2.1.2.1
  refine b_X10_findBroken_0 hG hP ht q0 ?_
  rw [hx.2.1.2.1]
  have loop : ∀ j, j ≤ T 0 1 → ∀ x : Int32, (∀ i, i < 32 → (bt x i = true ↔ (j ≤ i ∧ i < T 0 1 ∧ sDn T Lw S i))) → J l mX10_findBroken (jZ0 0 G (pI fun x μ' => μ' = μ ∧ ∀ i, i < 32 → (bt x i = true ↔ (i < T 0 1 ∧ sDn T Lw S i)))) G 0 0 12 [.ref 12, .int x, .int (nI j - 1)] [] μ := by
    intro j
    induction j with
    | zero =>
      intro _ x h
      have hneg : nI 0 - 1 < 0 := by decide
      refine b_X10_findBroken_12 hG hP hgr q5 (fun _ => ⟨rfl, fun i hi => ?_⟩) (fun h => absurd hneg h) (fun h => absurd hneg h) (fun h => absurd hneg h) (fun h => absurd hneg h)
      rw [h i hi]; simp
    | succ j ih =>
      intro hj x h
      rw [nI_pred]
      have hnn : ¬ nI j < 0 := nI_pos (by omega)
      have i7 : (7 : Int32) + nI j = nI (7 + j) := nI_add 7 j
      have cj : (nI j).toNatClampNeg = j := nI_clamp (by omega)
      have c7 : (nI (7 + j)).toNatClampNeg = 7 + j := nI_clamp (by omega)
      have em : nI j + (-1) = nI j - 1 := (Int32.sub_eq_add_neg (nI j) 1).symm
      refine b_X10_findBroken_12 hG hP hgr q5 (fun h => absurd h hnn) (fun _ => by rw [i7]; exact vp_in_nI (by omega) (by decide)) (fun _ => vp_in_nI (by omega) (by decide)) (fun _ h1 => ?_) (fun _ h1 => ?_)
      · rw [i7, c7, cj, hw j (by omega), hb j (by omega)] at h1
        rw [em]
        refine ih (by omega) x (fun i hi => ?_)
        rw [h i hi]
        by_cases e : i = j
        · subst e
          have : ¬ sDn T Lw S i := by unfold sDn; rw [i32_lt] at h1; rw [i32_le]; omega
          simp [this]
        · constructor
          · rintro ⟨z1, z2⟩; exact ⟨by omega, z2⟩
          · rintro ⟨z1, z2⟩; exact ⟨by omega, z2⟩
      · rw [i7, c7, cj, hw j (by omega), hb j (by omega)] at h1
        rw [em]
        refine ih (by omega) _ (fun i hi => ?_)
        rw [b_or, b_one (by omega) hi]
        by_cases e : i = j
        · subst e
          have : sDn T Lw S i := by unfold sDn; rw [i32_lt] at h1; rw [i32_le]; omega
          simp [this]; omega
        · have h2 := h i hi
          simp [e]
          rw [h2]
          constructor
          · rintro ⟨z1, z2⟩; exact ⟨by omega, z2⟩
          · rintro ⟨z1, z2⟩; exact ⟨by omega, z2⟩
  exact loop (T 0 1) (Nat.le_refl _) 0 (fun i hi => by rw [b_0]; constructor; (intro z; cases z); (rintro ⟨z1, z2, -⟩; omega))
theorem c_X10_stirred (hG : gGG G) {μ : jM} (hP : gPP μ) (h v : Int32) : jC0 l mX10_stirred 0 G [.int h, .int v] μ (pI fun r μ' => μ' = μ ∧ r = sMix h v) := by
  refine jC0.of' (ls := [.int h, .int v, .null]) rfl rfl rfl (fun _ _ => Nat.le_of_ble_eq_true rfl) ?_
  exact b_X10_stirred_0 hG hP ⟨rfl, rfl⟩
def sLt (lots night : Int32) : Int32 := sLot (sMix (sMix lots 73) night) - sLot (sMix (sMix lots 73) night) / 100 * 100
theorem c_X10_lot (hG : gGG G) {μ : jM} (hP : gPP μ) (lots night : Int32) : jC0 l mX10_lot 1 G [.int 100, .int lots, .int night] μ (pI fun r μ' => μ' = μ ∧ r = sLt lots night) := by
  refine jC0.of' (ls := [.int 100, .int lots, .int night, .null]) rfl rfl rfl (fun _ _ => Nat.le_of_ble_eq_true rfl) ?_
  refine b_X10_lot_0 hG hP (c_X10_stirred hG hP _ _) ?_
  rintro x μ ⟨rfl, rfl⟩
  refine b_X10_lot_6 hG hP (c_X10_stirred hG hP _ _) ?_
  rintro x μ ⟨rfl, rfl⟩
  have h1 : ¬ (100 : Int32) ≤ 0 := by decide
  refine b_X10_lot_10 hG hP (fun h => absurd h h1) (fun _ => by decide) (fun _ => ⟨rfl, rfl⟩)
end DoubtC
theorem sLt_in (lots night : Int32) : ∃ m, m < 100 ∧ sLt lots night = nI m := by
  unfold sLt
  generalize sMix (sMix lots 73) night = z
  have h1 : (sLot z).toBitVec.toNat = z.toBitVec.toNat / 2 ^ 1 := pk_ushr z 1 1 (by decide)
  have h2 : z.toBitVec.toNat < 2 ^ 32 := z.toBitVec.isLt
  have h3 : sLot z = nI (z.toBitVec.toNat / 2) := by
    apply Int32.toBitVec_inj.mp
    apply BitVec.eq_of_toNat_eq
    rw [h1, pk_tn (by omega)]
  rw [h3, show (100 : Int32) = nI 100 from rfl, pk_rem (by omega) (by decide) (by decide)]
  exact ⟨_, Nat.mod_lt _ (by decide), rfl⟩
theorem sFg_lt {T : sT} {Lw : Nat → sLaw} (hv : vT T Lw) {S : sR} {lots : Int32} {n : Nat} (hn : S 67 = nI n) : sFg T S lots = if nI (T 0 4) ≤ 0 then 0 else if nI (T 0 4) ≤ sLt lots (nI n) then 0 else 1 := by
  have h4 := hv.1.2.2.2.2.1
  obtain ⟨m, hm, e⟩ := sLt_in lots (nI n)
  unfold sFg sFoggy
  rw [hn]
  show (if nI (T 0 4) ≤ sLt lots (nI n) then (0 : Int32) else 1) = _
  by_cases h : nI (T 0 4) ≤ 0
  · rw [if_pos h]
    have : T 0 4 ≤ 0 := (nI_leI (b := 0) (by omega) (by decide)).mp h
    rw [if_pos]
    rw [e]; exact nI_le (by omega) (by omega)
  · rw [if_neg h]
