/-! THE REFERENCE ANSWERS: keepers, first, meets, sheet -/
theorem nI_mul2 (p : Nat) : 2 * nI p = nI (2 * p) := by rw [show (2 : Int32) = nI 2 from rfl, pk_mul]
section ModU
variable {l : Launch} {G : jG}
theorem c_X12_fillsTaken (hG : gMM G) {μ : jM} (hP : gNN μ) {v n : Nat} {T : sT} {Lw : Nat → sLaw} {S : sR} (hm : mNow μ v T Lw S) (hn : n < 2 ^ 31) : jC0 l mX12_fillsTaken 9 G [.ref 112, .int (nI n)] μ (pV fun μ' => mQ μ μ' ∧ gNN μ' ∧ ∀ p, p < 16 → μ'.1 158 (2 * p) = tkE T Lw S n p ∧ μ'.1 158 (2 * p + 1) = tkO T Lw S n p) := by
  refine jC0.of' (ls := [.ref 112, .int (nI n), .null, .null]) rfl rfl rfl (fun _ _ => Nat.le_of_ble_eq_true rfl) ?_
  have hv := hm.1.2.2.2.2.2
  have h12 := hv.1.2.1
  refine b_X12_fillsTaken_0 hG hP ?_
  have loop : ∀ p, p ≤ 16 → ∀ μ3, mQ μ μ3 → mNow μ3 v T Lw S → gNN μ3 → (∀ q, q < p → μ3.1 158 (2 * q) = tkE T Lw S n q ∧ μ3.1 158 (2 * q + 1) = tkO T Lw S n q) → J l mX12_fillsTaken (jZ0 9 G (pV fun μ' => mQ μ μ' ∧ gNN μ' ∧ ∀ p, p < 16 → μ'.1 158 (2 * p) = tkE T Lw S n p ∧ μ'.1 158 (2 * p + 1) = tkO T Lw S n p)) G 0 0 2 [.ref 112, .int (nI n), .int (nI p), .null] [] μ3 := by
    refine up_loop 16 ?_ (fun p hp ih => ?_)
    · intro μ3 hq3 hm3 hP3 ht
      exact b_X12_fillsTaken_2 (ψ1 := fun _ => True) hG hP3 (fun _ => ⟨hq3, hP3, ht⟩) (fun h => absurd (by decide) h) (fun h => absurd (by decide) h)
    · intro μ3 hq3 hm3 hP3 ht
      have hd : nI p / 4 = nI (p / 4) := pk_div (d := 4) (by omega) (by decide) (by decide)
      have hmd : nI p - nI p / 4 * 4 = nI (p % 4) := pk_rem (d := 4) (by omega) (by decide) (by decide)
      refine b_X12_fillsTaken_2 hG hP3 (fun h => absurd h (nI_ge (b := 16) hp (by decide))) (fun _ => c_X12_copies hG hP3 hm3) (fun _ => ?_)
      rintro μ5 ⟨hq5, hm5, ⟨hr, hlo, hth, hod⟩, hP5, ho5⟩
      obtain ⟨μ6, h6⟩ : ∃ μ6, μ6 = wI (wI μ5 152 65 (nI (p / 4))) 112 60 (nI (p % 4)) := ⟨_, rfl⟩
      have hq6 : mQ μ5 μ6 := by
        rw [h6]
        exact ⟨(mOff_wC (C := mQC) (F := mQF) (by decide) (by decide)).trans (mOff_wF (by decide)), fun j hj => by rw [wI_ne (by decide), wI_off' (by omega)]; exact hm5.2.2.1 j hj⟩
      have hP6 : gNN μ6 := hq6.1.gNN hP5
      have r6 : μ6.1 152 = upd S 65 (nI (p / 4)) := by rw [h6, wI_ne (by decide), wI_eq, hr]
      have l58 : μ6.1 112 58 = nI (T 0 7) := by rw [h6, wI_off' (by decide), wI_ne (by decide)]; exact hlo
      have l59 : μ6.1 112 59 = 127 := by rw [h6, wI_off' (by decide), wI_ne (by decide)]; exact hth
      have l60 : μ6.1 112 60 = nI (p % 4) := by rw [h6, wI_at]
      have u65 : upd S 65 (nI (p / 4)) 65 = nI (p / 4) := upd_at
      have hrt : rtOK (upd S 65 (nI (p / 4))) (nI (p % 4)) := by
        unfold rtOK; rw [u65, nI_toInt (by omega), nI_toInt (by omega)]; omega
      have hgo := q_goes (l := l) (E := upd S 65 (nI (p / 4))) (od := nI (p % 4)) (n := n) hG hP6 (hq6.now hm5) r6 (fun j hj => by rw [upd_ne (by omega)]; exact hm.2.2.2.1 j hj) l60 hrt hn
      rw [l58, l59] at hgo
      refine b_X12_fillsTaken_12 hG hP5 (by rw [hmd, hd, ← h6]; exact hgo) ?_
      rintro μ7 ⟨hq7, hm7, hP7, ho7, hr7⟩
      have hr7' : μ7.1 152 = kpE T Lw S n p := hr7
      have e158 : μ7.1 158 = μ3.1 158 := by rw [ho7.c 158 (by decide) (by decide), h6, wI_ne (by decide), wI_ne (by decide), ho5.c 158 (by decide) (by decide)]
      have hq' := ((hq3.trans hq5).trans hq6).trans hq7
      have e2 : (2 : Int32) * nI p = nI (2 * p) := nI_mul2 p
      have e21 : (2 : Int32) * nI p + 1 = nI (2 * p + 1) := by rw [e2, nI_inc]
      refine b_X12_fillsTaken_34 hG hP7 (by rw [e2]; exact vp_in_nI (by omega) (by decide)) (by rw [e21]; exact vp_in_nI (by omega) (by decide)) ?_
      rw [e21, e2, nI_clamp (by omega), nI_clamp (by omega)]
      obtain ⟨g, hge⟩ : ∃ g : Nat → Int32, g = fun k => kpE T Lw S n p (24 + k) - S (24 + k) := ⟨_, rfl⟩
      have gz : ∀ k, T 0 1 ≤ k → k < 12 → g k = 0 := fun k h1 h2 => by
        have := (sNn_grow hv (lots := nI (T 0 7)) (od := nI (p % 4)) (th := 127) (S := upd S 65 (nI (p / 4))) n).2.2.2.1 k h1 h2
        rw [hge]; unfold kpE; simp only [this]; rw [upd_ne (by omega), Int32.sub_self]
      obtain ⟨sE1, sO1⟩ := sm_even h12 gz
      have tE : sm (fun j => g (2 * j)) 6 = tkE T Lw S n p := by rw [hge]; rfl
      have tO : sm (fun j => g (2 * j + 1)) 6 = tkO T Lw S n p := by rw [hge]; rfl
      have inner : ∀ k, k ≤ T 0 1 → ∀ μ8, mQ μ7 μ8 → gNN μ8 → μ8.1 152 = μ7.1 152 → (∀ i, i ≠ 2 * p → i ≠ 2 * p + 1 → μ8.1 158 i = μ7.1 158 i) → μ8.1 158 (2 * p) = sm (fun k => if k % 2 = 0 then g k else 0) k → μ8.1 158 (2 * p + 1) = sm (fun k => if k % 2 = 0 then 0 else g k) k → J l mX12_fillsTaken (jZ0 9 G (pV fun μ' => mQ μ μ' ∧ gNN μ' ∧ ∀ p, p < 16 → μ'.1 158 (2 * p) = tkE T Lw S n p ∧ μ'.1 158 (2 * p + 1) = tkO T Lw S n p)) G 0 0 56 [.ref 112, .int (nI n), .int (nI p), .int (nI k)] [] μ8 := by
        refine up_loop (T 0 1) ?_ (fun k hk ihk => ?_)
        · intro μ8 hq8 hP8 hr8 ho8 hE hO
          have hm8 := hq8.now hm7
          obtain ⟨n1, n2⟩ := nr_at hm8.1
          have hle : μ8.1 123 (μ8.1 112 18).toNatClampNeg ≤ nI (T 0 1) := by rw [n2]; exact nI_le (Nat.le_refl _) (by omega)
          refine b_X12_fillsTaken_56 hG hP8 n1 (fun _ => ?_) (fun h => absurd hle h) (fun h => absurd hle h) (fun h => absurd hle h)
          rw [nI_inc]
          refine ih μ8 (hq'.trans hq8) hm8 hP8 (fun q hq => ?_)
          by_cases e : q = p
          · rw [e, hE, hO, sE1, sO1, tE, tO]; exact ⟨rfl, rfl⟩
          · rw [ho8 _ (by omega) (by omega), ho8 _ (by omega) (by omega), e158]; exact ht q (by omega)
        · intro μ8 hq8 hP8 hr8 ho8 hE hO
          have hm8 := hq8.now hm7
          obtain ⟨n1, n2⟩ := nr_at hm8.1
          have hgt : ¬ μ8.1 123 (μ8.1 112 18).toNatClampNeg ≤ nI k := by rw [n2]; exact nI_ge hk (by omega)
          have ek : (24 : Int32) + nI k = nI (24 + k) := nI_add 24 k
          have er : (2 : Int32) * nI p + (nI k - nI k / 2 * 2) = nI (2 * p + k % 2) := by rw [nI_rem2 k (by omega), e2, nI_add]
          refine b_X12_fillsTaken_56 hG hP8 n1 (fun h => absurd h hgt) (fun _ => by rw [er]; exact vp_in_nI (by omega) (by decide)) (fun _ => by rw [ek]; exact vp_in_nI (by omega) (by decide)) (fun _ => ?_)
          rw [er, ek, nI_clamp (by omega), nI_clamp (by omega), nI_inc]
          have hgk : μ8.1 152 (24 + k) - μ8.1 151 (24 + k) = g k := by rw [hr8, hr7', hm8.2.1, hge]
          rw [hgk]
          have hqw : mQ μ8 (wI μ8 158 (2 * p + k % 2) (μ8.1 158 (2 * p + k % 2) + g k)) := ⟨mOff_wC (by decide) (by decide), fun j hj => by rw [wI_ne (by decide)]; exact hm8.2.2.1 j hj⟩
          refine ihk _ (hq8.trans hqw) hP8 (by rw [wI_ne (by decide)]; exact hr8) (fun i h1 h2 => ?_) ?_ ?_
          · rw [wI_off' (by omega)]; exact ho8 i h1 h2
          · show _ = sm (fun k => if k % 2 = 0 then g k else 0) k + (if k % 2 = 0 then g k else 0)
            by_cases h : k % 2 = 0
            · rw [h, Nat.add_zero, wI_at, hE, if_pos rfl]
            · rw [wI_off' (by omega), hE, if_neg h, Int32.add_zero]
          · show _ = sm (fun k => if k % 2 = 0 then 0 else g k) k + (if k % 2 = 0 then 0 else g k)
            by_cases h : k % 2 = 0
            · rw [wI_off' (by omega), hO, if_pos h, Int32.add_zero]
            · rw [show k % 2 = 1 by omega, wI_at, hO, if_neg (by omega)]
      have hqw : mQ μ7 (wI (wI μ7 158 (2 * p) 0) 158 (2 * p + 1) 0) := ⟨(mOff_wC (C := mQC) (F := mQF) (by decide) (by decide)).trans (mOff_wC (by decide) (by decide)), fun j hj => by rw [wI_ne (by decide), wI_ne (by decide)]; exact hm7.2.2.1 j hj⟩
      refine inner 0 (Nat.zero_le _) _ hqw hP7 (by rw [wI_ne (by decide), wI_ne (by decide)]) (fun i h1 h2 => by rw [wI_off' h2, wI_off' h1]) ?_ ?_
      · rw [wI_off' (by omega), wI_at]; rfl
      · rw [wI_at]; rfl
  exact loop 0 (by omega) μ (mQ.refl hm.2.2.1) hm hP (fun q hq => by omega)
theorem c_X12_isResting (hG : gMM G) {μ : jM} (hP : gNN μ) {p : Nat} (hp : p < 16) : jC0 l mX12_isResting 0 G [.ref 112, .int (nI p)] μ (pI fun z μ' => μ' = μ ∧ ((z = 1 ∧ rsP (fun q => μ.1 158 (2 * q)) (fun q => μ.1 158 (2 * q + 1)) p) ∨ (z = 0 ∧ ¬ rsP (fun q => μ.1 158 (2 * q)) (fun q => μ.1 158 (2 * q + 1)) p))) := by
  refine jC0.of' (ls := [.ref 112, .int (nI p), .null]) rfl rfl rfl (fun _ _ => Nat.le_of_ble_eq_true rfl) ?_
  have hd : nI p / 4 = nI (p / 4) := pk_div (d := 4) (by omega) (by decide) (by decide)
  have hmd : nI p - nI p / 4 * 4 = nI (p % 4) := pk_rem (d := 4) (by omega) (by decide) (by decide)
  refine b_X12_isResting_0 hG hP ?_
  have loop : ∀ r, r ≤ 4 → (∀ q, q < r → μ.1 158 (2 * (4 * q + p % 4)) ≤ μ.1 158 (2 * p) ∧ μ.1 158 (2 * (4 * (p / 4) + q) + 1) ≤ μ.1 158 (2 * p + 1)) → J l mX12_isResting (jZ0 0 G (pI fun z μ' => μ' = μ ∧ ((z = 1 ∧ rsP (fun q => μ.1 158 (2 * q)) (fun q => μ.1 158 (2 * q + 1)) p) ∨ (z = 0 ∧ ¬ rsP (fun q => μ.1 158 (2 * q)) (fun q => μ.1 158 (2 * q + 1)) p)))) G 0 0 2 [.ref 112, .int (nI p), .int (nI r)] [] μ := by
    refine up_loop 4 ?_ (fun r hr ih => ?_)
    · intro h
      exact b_X12_isResting_2 hG hP (fun _ => ⟨rfl, Or.inl ⟨rfl, h⟩⟩) (fun h => absurd (by decide) h) (fun h => absurd (by decide) h) (fun h => absurd (by decide) h) (fun h => absurd (by decide) h) (fun h => absurd (by decide) h) (fun h => absurd (by decide) h) (fun h => absurd (by decide) h)
    · intro h
      have a1 : 2 * ((4 * nI r) + (nI p - nI p / 4 * 4)) = nI (2 * (4 * r + p % 4)) := by rw [hmd, show (4 : Int32) = nI 4 from rfl, pk_mul, nI_add, nI_mul2]
      have a2 : 2 * nI p = nI (2 * p) := nI_mul2 p
      have a3 : (2 * (((nI p / 4) * 4) + nI r)) + 1 = nI (2 * (4 * (p / 4) + r) + 1) := by rw [hd, show (4 : Int32) = nI 4 from rfl, pk_mul, nI_add, nI_mul2, nI_inc, Nat.mul_comm (p / 4) 4]
      have a4 : (2 * nI p) + 1 = nI (2 * p + 1) := by rw [a2, nI_inc]
      have c1 : (2 * ((4 * nI r) + (nI p - nI p / 4 * 4))).toNatClampNeg = 2 * (4 * r + p % 4) := by rw [a1]; exact nI_clamp (by omega)
      have c2 : (2 * nI p).toNatClampNeg = 2 * p := by rw [a2]; exact nI_clamp (by omega)
      have c3 : ((2 * (((nI p / 4) * 4) + nI r)) + 1).toNatClampNeg = 2 * (4 * (p / 4) + r) + 1 := by rw [a3]; exact nI_clamp (by omega)
      have c4 : ((2 * nI p) + 1).toNatClampNeg = 2 * p + 1 := by rw [a4]; exact nI_clamp (by omega)
      refine b_X12_isResting_2 hG hP (fun z => absurd z (nI_ge (b := 4) hr (by decide))) (fun _ => by rw [a1]; exact vp_in_nI (by omega) (by decide)) (fun _ => by rw [a2]; exact vp_in_nI (by omega) (by decide)) (fun _ z => ⟨rfl, Or.inr ⟨rfl, fun y => ?_⟩⟩) (fun _ _ => by rw [a3]; exact vp_in_nI (by omega) (by decide)) (fun _ _ => by rw [a4]; exact vp_in_nI (by omega) (by decide)) (fun _ z1 z2 => ?_) (fun _ _ z => ⟨rfl, Or.inr ⟨rfl, fun y => ?_⟩⟩)
      · rw [c1, c2] at z
        have this : μ.1 158 (2 * (4 * r + p % 4)) ≤ μ.1 158 (2 * p) := (y r hr).1
        rw [i32_lt] at z; rw [i32_le] at this; omega
      · rw [c1, c2] at z1
        rw [c3, c4] at z2
        rw [nI_inc]
        refine ih (fun q hq => ?_)
        by_cases e : q = r
        · rw [e]; exact ⟨by rw [i32_lt] at z1; rw [i32_le]; omega, z2⟩
        · exact h q (by omega)
      · rw [c3, c4] at z; exact z (y r hr).2
  exact loop 0 (by omega) (fun q hq => by omega)
theorem c_X12_keepers (hG : gMM G) {μ : jM} (hP : gNN μ) {v : Nat} {T : sT} {Lw : Nat → sLaw} {S : sR} (hm : mNow μ v T Lw S) (x y : Int32) : jC0 l mX12_keepers 10 G [.ref 112, .int x, .int y] μ (pI fun z μ' => z = rKeepers T Lw S x y ∧ mQ μ μ') := by
  refine jC0.of' (ls := [.ref 112, .int x, .int y, .null, .null]) rfl rfl rfl (fun _ _ => Nat.le_of_ble_eq_true rfl) ?_
  have hz := mQ.refl hm.2.2.1
  refine b_X12_keepers_0 hG hP (c_X12_in1 hG hP x (n := 9) rfl (by decide)) ?_
  rintro z μ1 ⟨rfl, ⟨rfl, hx⟩ | ⟨rfl, hx⟩⟩
  · obtain ⟨n, hn, hn0, rfl⟩ := hx
    rw [show rKeepers T Lw S (nI n) y = _ from gIf_in1 hn (by decide) hn0]
    refine b_X12_keepers_7 hG hP (fun h => absurd h (by decide)) (fun _ _ => c_X12_fillsTaken hG hP hm (by omega)) (fun _ hy => ?_) (fun _ hy => ⟨(if_neg hy).symm, hz⟩)
    rw [if_pos hy]
    rintro μ2 ⟨hq2, hP2, ht⟩
    refine b_X12_keepers_22 hG hP2 ?_
    have hR : ∀ p, p < 16 → (rsP (fun q => μ2.1 158 (2 * q)) (fun q => μ2.1 158 (2 * q + 1)) p ↔ rsP (tkE T Lw S n) (tkO T Lw S n) p) := fun p hp => rsP_congr (fun q hq => (ht q hq).1) (fun q hq => (ht q hq).2) hp
    rw [← pkF_congr (R := rsP (fun q => μ2.1 158 (2 * q)) (fun q => μ2.1 158 (2 * q + 1))) 16 0 0 (fun q _ h2 => hR q (by omega))]
    have loop : ∀ (m p : Nat) (f : Int32), p + m = 16 → J l mX12_keepers (jZ0 10 G (pI fun z μ' => z = pkF (rsP (fun q => μ2.1 158 (2 * q)) (fun q => μ2.1 158 (2 * q + 1))) (fun p => nI (10 * (p / 4) + p % 4)) y m p f ∧ mQ μ1 μ')) G 0 0 27 [.ref 112, .null, .int y, .int f, .int (nI p)] [] μ2 := by
      intro m
      induction m with
      | zero =>
        intro p f hp
        have : p = 16 := by omega
        subst this
        refine b_X12_keepers_27 (ψ2 := fun _ _ => True) hG hP2 (fun _ h => ⟨?_, hq2⟩) (fun _ h => ⟨?_, hq2⟩) (fun h => absurd (by decide) h) (fun h => absurd (by decide) h)
        · show -1 = if y = -1 then f else -1; rw [if_neg h]
        · show f = if y = -1 then f else -1; rw [if_pos h]
      | succ m ih =>
        intro p f hp
        have hp16 : p < 16 := by omega
        have hd : nI p / 4 = nI (p / 4) := pk_div (d := 4) (by omega) (by decide) (by decide)
        have hmd : nI p - nI p / 4 * 4 = nI (p % 4) := pk_rem (d := 4) (by omega) (by decide) (by decide)
        refine b_X12_keepers_27 hG hP2 (fun h => absurd h (nI_ge (b := 16) hp16 (by decide))) (fun h => absurd h (nI_ge (b := 16) hp16 (by decide))) (fun _ => c_X12_isResting hG hP2 hp16) (fun _ => ?_)
        rintro z μ' ⟨rfl, hz⟩
        rcases hz with ⟨rfl, hR⟩ | ⟨rfl, hR⟩
        · rw [pkF_yes hR]
          refine b_X12_keepers_40 hG hP2 (fun _ h => ?_) (fun _ h => ⟨?_, hq2⟩) (fun h => absurd h (by decide))
          · rw [if_neg h, nI_inc]; exact ih (p + 1) (f + 1) (by omega)
          · rw [if_pos h, hmd, hd, show (10 : Int32) = nI 10 from rfl, pk_mul, nI_add, Nat.mul_comm]
        · rw [pkF_no hR]
          refine b_X12_keepers_40 hG hP2 (fun h => absurd rfl h) (fun h => absurd rfl h) (fun _ => ?_)
          rw [nI_inc]; exact ih (p + 1) f (by omega)
    exact loop 16 0 0 rfl
  · exact b_X12_keepers_7 (ψ1 := fun _ => True) hG hP (fun _ => ⟨(gIf_no1 (by decide) hx).symm, hz⟩) (fun h => absurd rfl h) (fun h => absurd rfl h) (fun h => absurd rfl h)
theorem c_X12_downNow (hG : gMM G) {μ : jM} (hP : gNN μ) {v : Nat} {T : sT} {Lw : Nat → sLaw} {S : sR} (hm : mNow μ v T Lw S) : jC0 l mX12_downNow 3 G [.ref 112] μ (pI fun z μ' => mQ μ μ' ∧ mNow μ' v T Lw S ∧ gNN μ' ∧ mOff [149, 150] [55] μ μ' ∧ ∀ i, i < 32 → (bt z i = true ↔ (i < T 0 1 ∧ sDn T Lw (μ.1 152) i))) := by
  refine jC0.of' (ls := [.ref 112, .null, .null]) rfl rfl rfl (fun _ _ => Nat.le_of_ble_eq_true rfl) ?_
  have h12 := hm.1.2.2.2.2.2.1.2.1
  refine b_X12_downNow_0 hG hP ?_
  have loop : ∀ k, k ≤ T 0 1 → ∀ (μ1 : jM) (s : Int32), mQ μ μ1 → mNow μ1 v T Lw S → gNN μ1 → mOff [149, 150] [55] μ μ1 → (∀ i, i < 32 → (bt s i = true ↔ (i < k ∧ sDn T Lw (μ.1 152) i))) → J l mX12_downNow (jZ0 3 G (pI fun z μ' => mQ μ μ' ∧ mNow μ' v T Lw S ∧ gNN μ' ∧ mOff [149, 150] [55] μ μ' ∧ ∀ i, i < 32 → (bt z i = true ↔ (i < T 0 1 ∧ sDn T Lw (μ.1 152) i)))) G 0 0 4 [.ref 112, .int s, .int (nI k)] [] μ1 := by
    refine up_loop (T 0 1) ?_ (fun k hk ih => ?_)
    · intro μ1 s hq hm1 hP1 ho hs
      obtain ⟨n1, n2⟩ := nr_at hm1.1
      have hle : μ1.1 123 (μ1.1 112 18).toNatClampNeg ≤ nI (T 0 1) := by rw [n2]; exact nI_le (Nat.le_refl _) (by omega)
      exact b_X12_downNow_4 (ψ1 := fun _ _ => True) hG hP1 n1 (fun _ => ⟨hq, hm1, hP1, ho, hs⟩) (fun h => absurd hle h) (fun h => absurd hle h)
    · intro μ1 s hq hm1 hP1 ho hs
      obtain ⟨n1, n2⟩ := nr_at hm1.1
      have hgt : ¬ μ1.1 123 (μ1.1 112 18).toNatClampNeg ≤ nI k := by rw [n2]; exact nI_ge hk (by omega)
      refine b_X12_downNow_4 hG hP1 n1 (fun h => absurd h hgt) (fun _ => q_down hG hP1 hm1 hk) (fun _ => ?_)
      rintro z μ2 ⟨hq2, hm2, hP2, ho2, hz⟩
      rw [ho.c 152 (by decide) (by decide)] at hz
      rcases hz with ⟨rfl, hd⟩ | ⟨rfl, hd⟩
      · refine b_X12_downNow_22 hG hP2 (fun h => absurd h (by decide)) (fun _ => ?_)
        rw [nI_inc]
        refine ih μ2 _ (hq.trans hq2) hm2 hP2 (ho.trans ho2) (fun i hi => ?_)
        rw [b_or, b_one (by omega) hi, Bool.or_eq_true, hs i hi, decide_eq_true_iff]
        constructor
        · rintro (⟨h1, h2⟩ | rfl)
          · exact ⟨by omega, h2⟩
          · exact ⟨by omega, hd⟩
        · rintro ⟨h1, h2⟩
          by_cases e : i = k
          · exact Or.inr e
          · exact Or.inl ⟨by omega, h2⟩
      · refine b_X12_downNow_22 hG hP2 (fun _ => ?_) (fun h => absurd rfl h)
        rw [nI_inc]
        refine ih μ2 _ (hq.trans hq2) hm2 hP2 (ho.trans ho2) (fun i hi => ?_)
        rw [hs i hi]
        constructor
        · rintro ⟨h1, h2⟩; exact ⟨by omega, h2⟩
        · rintro ⟨h1, h2⟩
          by_cases e : i = k
          · rw [e] at h2; exact absurd h2 hd
          · exact ⟨by omega, h2⟩
  exact loop 0 (Nat.zero_le _) μ 0 (mQ.refl hm.2.2.1) hm hP mOff.refl (fun i hi => by rw [b_0]; exact ⟨fun z => (by cases z), fun z => absurd z.1 (by omega)⟩)
theorem c_X12_first (hG : gMM G) {μ : jM} (hP : gNN μ) {v : Nat} {T : sT} {Lw : Nat → sLaw} {S : sR} (hm : mNow μ v T Lw S) (x : Int32) : jC0 l mX12_first 8 G [.ref 112, .int x] μ (pI fun z μ' => z = rFirst T Lw S x ∧ mQ μ μ') := by
  refine jC0.of' (ls := [.ref 112, .int x, .null, .null, .null, .null]) rfl rfl rfl (fun _ _ => Nat.le_of_ble_eq_true rfl) ?_
  have hv := hm.1.2.2.2.2.2
  have h12 := hv.1.2.1
  refine b_X12_first_0 hG hP (c_X12_inN hG hP x (n := 1) rfl (by decide)) ?_
  rintro z μ1 ⟨rfl, ⟨rfl, hx⟩ | ⟨rfl, hx⟩⟩
  · obtain ⟨w, hw, rfl⟩ := hx
    rw [show rFirst T Lw S (nI w) = _ from gIf_in hw (by decide)]
    have w0 : nI w = 0 ↔ w = 0 := nI_eq (b := 0) (by omega) (by decide)
    obtain ⟨V, hV⟩ : ∃ V, V = fstV T Lw S := ⟨_, rfl⟩
    rw [← hV]
    refine b_X12_first_6 hG hP (fun _ => c_X12_copies hG hP hm) (fun _ => ?_) (fun h => absurd h (by decide))
    rintro μ2 ⟨hq2, hm2, ⟨hr, hlo, hth, hod⟩, hP2, -⟩
    refine b_X12_first_15 hG hP2 (c_X12_downNow hG hP2 hm2) ?_
    rintro b0 μ3 ⟨hq3, hm3, hP3, ho3, d0⟩
    rw [hr] at d0
    refine b_X12_first_19 hG hP3 ?_
    have hq23 := hq2.trans hq3
    have loop : ∀ i, i ≤ 200 → ∀ μ4, mQ μ1 μ4 → mNow μ4 v T Lw S → gNN μ4 → μ4.1 152 = nnS T Lw i S → μ4.1 112 58 = nI (T 0 7) → μ4.1 112 59 = 127 → μ4.1 112 60 = -1 → (∀ j, j < i → ¬ fstN T Lw S j = true) → J l mX12_first (jZ0 8 G (pI fun z μ' => z = (if w = 0 then V.2 else V.1) ∧ mQ μ1 μ')) G 0 0 22 [.ref 112, .int (nI w), .int b0, .int (nI (i + 1)), .null, .null] [] μ4 := by
      refine up_loop 200 ?_ (fun i hi ih => ?_)
      · intro μ4 hq4 hm4 hP4 hr4 h58 h59 h60 hno
        refine b_X12_first_22 (ψ1 := fun _ => True) hG hP4 (fun _ => ⟨?_, hq4⟩) (fun h => absurd (by decide) h) (fun h => absurd (by decide) h)
        have hfv : V = (-2, -2) := by rw [hV]; unfold fstV; rw [fkF_all 200 hno, if_neg (by omega)]
        rw [hfv]; split <;> rfl
      · intro μ4 hq4 hm4 hP4 hr4 h58 h59 h60 hno
        have h200 : ¬ (200 : Int32) < nI (i + 1) := nI_nlt (a := 200) (by omega) (by decide)
        have u65 : nnS T Lw i S 65 = S 65 := sNn_65 hv i
        have hgo := q_night (l := l) (E := nnS T Lw i S) (od := -1) hG hP4 hm4 hr4 (fun j hj => by unfold nnS; rw [sNn_hi hv hj]; exact hm.2.2.2.1 j hj) h60 (rt_ok (by rw [u65]; exact hm.2.2.2.2))
        rw [h58, h59] at hgo
        refine b_X12_first_22 hG hP4 (fun h => absurd h h200) (fun _ => hgo) (fun _ => ?_)
        rintro μ5 ⟨hq5, hm5, hP5, ho5, hr5⟩
        have hr5' : μ5.1 152 = nnS T Lw (i + 1) S := hr5
        refine b_X12_first_33 hG hP5 (c_X12_downNow hG hP5 hm5) ?_
        rintro b1 μ6 ⟨hq6, hm6, hP6, ho6, d1⟩
        rw [hr5'] at d1
        refine b_X12_first_37 hG hP6 ?_
        obtain ⟨dn, hdn⟩ : ∃ dn, dn = b1 &&& (b0 ^^^ (-1)) := ⟨_, rfl⟩
        rw [← hdn]
        have hq' := (hq4.trans hq5).trans hq6
        have hbit : ∀ k, k < 32 → (bt dn k = true ↔ (k < T 0 1 ∧ nwP T Lw S (i + 1) k = true)) := by
          intro k hk
          have hd := d1 k hk
          have h0 := d0 k hk
          rw [hdn, b_and, b_xor, b_m1 k hk]
          unfold nwP
          rw [decide_eq_true_iff]
          cases x1 : bt b1 k <;> cases x2 : bt b0 k <;> rw [x1] at hd <;> rw [x2] at h0
          · exact ⟨fun z => (by cases z), fun z => absurd (hd.mpr ⟨z.1, z.2.1⟩) (by decide)⟩
          · exact ⟨fun z => (by cases z), fun z => absurd (hd.mpr ⟨z.1, z.2.1⟩) (by decide)⟩
          · have := hd.mp rfl
            exact ⟨fun _ => ⟨this.1, this.2, fun z => absurd (h0.mpr ⟨this.1, z⟩) (by decide)⟩, fun _ => rfl⟩
          · exact ⟨fun z => (by cases z), fun z => absurd (h0.mp rfl).2 z.2.2⟩
        have hfn : fstN T Lw S i = true ↔ ∃ k, k < T 0 1 ∧ nwP T Lw S (i + 1) k = true := by
          unfold fstN
          rw [decide_eq_true_iff]
          constructor
          · intro h; exact ⟨_, h, (fkF_hit _ h).1⟩
          · intro h
            obtain ⟨k, z1, z2, z3⟩ := first_ex _ h
            rw [fkF_of _ k z1 z2 z3]; exact z1
        obtain ⟨n1, n2⟩ := nr_at hm6.1
        have inner : ∀ k, k ≤ T 0 1 → (∀ j, j < k → ¬ nwP T Lw S (i + 1) j = true) → J l mX12_first (jZ0 8 G (pI fun z μ' => z = (if w = 0 then V.2 else V.1) ∧ mQ μ1 μ')) G 0 0 46 [.ref 112, .int (nI w), .int b0, .int (nI (i + 1)), .int dn, .int (nI k)] [] μ6 := by
          refine up_loop (T 0 1) ?_ (fun k hk ihk => ?_)
          · intro hnk
            have hle : μ6.1 123 (μ6.1 112 18).toNatClampNeg ≤ nI (T 0 1) := by rw [n2]; exact nI_le (Nat.le_refl _) (by omega)
            refine b_X12_first_46 hG hP6 n1 (fun _ => ?_) (fun h => absurd hle h) (fun h => absurd hle h) (fun h => absurd hle h)
            rw [nI_inc]
            refine ih μ6 hq' hm6 hP6 (by rw [ho6.c 152 (by decide) (by decide)]; exact hr5') (by rw [ho6.f 58 (by decide), ho5.f 58 (by decide)]; exact h58) (by rw [ho6.f 59 (by decide), ho5.f 59 (by decide)]; exact h59) (by rw [ho6.f 60 (by decide), ho5.f 60 (by decide)]; exact h60) (fun j hj => ?_)
            by_cases e : j = i
            · rw [e, hfn]; rintro ⟨k, z1, z2⟩; exact hnk k z1 z2
            · exact hno j (by omega)
          · intro hnk
            have hgt : ¬ μ6.1 123 (μ6.1 112 18).toNatClampNeg ≤ nI k := by rw [n2]; exact nI_ge hk (by omega)
            have hb := hbit k (by omega)
            have hbk : (((dn >>> (nI k &&& 31)) &&& 1) = (1)) ↔ nwP T Lw S (i + 1) k = true := by
              rw [sh1_1 (by omega), hb]; exact ⟨fun z => z.2, fun z => ⟨hk, z⟩⟩
            have hfv : nwP T Lw S (i + 1) k = true → V = (nI (i + 1), nI k) := fun hn => by
              have e1 : fkF (fstN T Lw S) 200 = i := fkF_of 200 i hi (hfn.mpr ⟨k, hk, hn⟩) hno
              have e2 : fkF (nwP T Lw S (i + 1)) (T 0 1) = k := fkF_of _ k hk hn hnk
              rw [hV]; unfold fstV; rw [e1, if_pos hi, e2]
            refine b_X12_first_46 hG hP6 n1 (fun h => absurd h hgt) (fun _ h => ?_) (fun _ h h1 => ⟨?_, hq'⟩) (fun _ h h1 => ⟨?_, hq'⟩)
            · rw [nI_inc]
              refine ihk (fun j hj => ?_)
              by_cases e : j = k
              · rw [e]; exact fun z => h (hbk.mpr z)
              · exact hnk j (by omega)
            · rw [hfv (hbk.mp h), if_neg (fun z => h1 (w0.mpr z))]
            · rw [hfv (hbk.mp h), if_pos (w0.mp h1)]
        exact inner 0 (Nat.zero_le _) (fun j hj => by omega)
    exact loop 0 (by omega) μ3 hq23 hm3 hP3 (by rw [ho3.c 152 (by decide) (by decide)]; exact hr) (by rw [ho3.f 58 (by decide)]; exact hlo) (by rw [ho3.f 59 (by decide)]; exact hth) (by rw [ho3.f 60 (by decide)]; exact hod) (fun j hj => by omega)
  · exact b_X12_first_6 (ψ0 := fun _ => True) hG hP (fun h => absurd rfl h) (fun h => absurd rfl h) (fun _ => ⟨(gIf_out hx).symm, mQ.refl hm.2.2.1⟩)
end ModU
