/-! ANSWERS, and the reference gives them -/
def rdV (T : sT) (Lw : Nat → sLaw) (S : sR) (k : Nat) (y : Int32) : Int32 :=
  if y = 0 then nI (T 1 k) else if y = 1 then nI (T 2 k) else if y = 2 then nI (T 3 k) else if y = 3 then nI (T 4 k) else if y = 4 then (if sGt S k then 1 else 0) else if y = 5 then S k else if y = 6 then (if sDn T Lw S k then 1 else 0) else if y = 7 then S (12 + k) else if y = 8 then S (24 + k) else -1
noncomputable def rRoad (T : sT) (Lw : Nat → sLaw) (S : sR) (x y : Int32) : Int32 := gIf x (T 0 1) (fun k => rdV T Lw S k y)
def ghV (T : sT) (S : sR) (a : Nat) (y : Int32) : Int32 :=
  if y = 0 then nI (T 7 a) else if y = 1 then nI (T 8 a) else if y = 2 then nI (T 9 a) else if y = 3 then (if S 67 - S 67 / nI (T 9 a) * nI (T 9 a) = 0 then 1 else 0) else if y = 4 then S (36 + a) else if y = 5 then S (43 + a) else if y = 6 then S (50 + a) else if y = 7 then S (57 + a) else -1
noncomputable def rGhost (T : sT) (S : sR) (x y : Int32) : Int32 := gIf x (T 0 2) (fun a => ghV T S a y)
noncomputable def rCost (T : sT) (Lw : Nat → sLaw) (S : sR) (x y : Int32) : Int32 := gIf x (T 0 2) (fun a => gIf y (T 0 1) (fun k => sCost T Lw S (nI (T 0 7)) (-1) a k))
noncomputable def wyV (T : sT) (Lw : Nat → sLaw) (S : sR) (a w : Nat) : Int32 :=
  if w = 0 then nI (sDs T Lw (nI (T 0 7)) (-1) S a (T 5 a)) else if w = 1 then sumW (fun k => nI (T 3 k)) (sWl T Lw (nI (T 0 7)) (-1) S a) 0 else if w = 2 then nI (sWl T Lw (nI (T 0 7)) (-1) S a).length else (if nI (T 8 a) ≤ sumW (sOw T Lw S (nI (T 0 7)) (-1) a) (sWl T Lw (nI (T 0 7)) (-1) S a) 0 then nI (T 8 a) else sumW (sOw T Lw S (nI (T 0 7)) (-1) a) (sWl T Lw (nI (T 0 7)) (-1) S a) 0)
noncomputable def rWay (T : sT) (Lw : Nat → sLaw) (S : sR) (x y : Int32) : Int32 := gIf x (T 0 2) (fun a => gIf y 4 (fun w => if sDs T Lw (nI (T 0 7)) (-1) S a (T 5 a) < INF then wyV T Lw S a w else -2))
noncomputable def waV (T : sT) (Lw : Nat → sLaw) (S : sR) (a : Nat) (y : Int32) : Int32 := if nI (sWl T Lw (nI (T 0 7)) (-1) S a).length ≤ y then -1 else nI (((sWl T Lw (nI (T 0 7)) (-1) S a)[y.toNatClampNeg]?).getD 0)
noncomputable def rWayAt (T : sT) (Lw : Nat → sLaw) (S : sR) (x y : Int32) : Int32 := gIf x (T 0 2) (fun a => if 0 ≤ y then (if sDs T Lw (nI (T 0 7)) (-1) S a (T 5 a) < INF then waV T Lw S a y else -2) else -1)
noncomputable def tnV (T : sT) (Lw : Nat → sLaw) (S : sR) (w : Nat) : Int32 := if w = 0 then nnS T Lw 1 S 66 - S 66 else if w = 1 then dfs (nnS T Lw 1 S) S 43 7 else dfs (nnS T Lw 1 S) S 12 12
noncomputable def rTonight (T : sT) (Lw : Nat → sLaw) (S : sR) (x : Int32) : Int32 := gIf x 3 (fun w => tnV T Lw S w)
noncomputable def rFree (T : sT) (Lw : Nat → sLaw) (S : sR) : Int32 := sFr T Lw (nI (T 0 7)) (-1) S (T 0 2)
noncomputable def rSaves (T : sT) (Lw : Nat → sLaw) (S : sR) (x : Int32) : Int32 := gIf x (T 0 2) (fun a => if sDs T Lw (nI (T 0 7)) (-1) S a (T 5 a) < INF then nI (sDs T Lw (nI (T 0 7)) (-1) S a (T 5 a)) - nI (sDs T Lw (nI (T 0 7)) (-1) (upd S 64 0) a (T 5 a)) else -2)
noncomputable def rPays (T : sT) (Lw : Nat → sLaw) (S : sR) (x y : Int32) : Int32 := gIf x (T 0 2) (fun a => gIf y 61 (fun n => nnS T Lw n S (36 + a) - S (36 + a)))
noncomputable def rSeen (T : sT) (Lw : Nat → sLaw) (S : sR) (x y : Int32) : Int32 := gIf x (T 0 1) (fun k => gIf y 61 (fun n => nnS T Lw n S (12 + k) - S (12 + k)))
theorem i01 {z : Int32} (h : z = 0) : ¬ ¬ z = 0 := fun w => w h
section ModQ
variable {l : Launch} {G : jG}
theorem q_find (hG : gMM G) {μ : jM} (hP : gNN μ) {v a : Nat} {T : sT} {Lw : Nat → sLaw} {S E : sR} {lots od : Int32} (hm : mNow μ v T Lw S) (hr : μ.1 152 = E) (hlo : μ.1 112 58 = lots) (hod : μ.1 112 60 = od) (hrt : rtOK E od) (ha : a < T 0 2) : jC0 l mX12_findsWay 6 G [.ref 112, .int (nI a)] μ (pI fun z μ' => mQ μ μ' ∧ mNow μ' v T Lw S ∧ gNN μ' ∧ mOff [149, 150, 153, 154, 155, 156] [55, 65] μ μ' ∧ (∀ k, k < T 0 1 → μ'.1 155 k = sOw T Lw E lots od a k) ∧ lf μ' (sDs T Lw lots od E a) ∧ ((z = 1 ∧ sDs T Lw lots od E a (T 5 a) < INF ∧ wyM μ' (sWl T Lw lots od E a)) ∨ (z = 0 ∧ ¬ sDs T Lw lots od E a (T 5 a) < INF))) := by
  refine (c_X12_findsWay hG hP hm.1 ha (by rw [hr, hod]; exact hrt)).mono (pI_mono ?_)
  rintro z μ' ⟨h1, h2, h3, h4⟩
  unfold ctM at h2
  rw [hr, hlo, hod] at h2 h3 h4
  have hq : mQ μ μ' := ⟨h1.mono (by decide) (by decide), fun i hi => by rw [h1.c 152 (by decide) (by decide)]; exact hm.2.2.1 i hi⟩
  exact ⟨hq, hq.now hm, h1.gNN hP, h1, fun k hk => (h2 k hk).2, h3, h4⟩
theorem c_X12_isLong (hG : gMM G) {μ : jM} (hP : gNN μ) (x : Int32) : jC0 l mX12_isLong 1 G [.int x] μ (pI fun z μ' => μ' = μ ∧ ((z = 1 ∧ isN x 61) ∨ (z = 0 ∧ ¬ isN x 61))) := by
  refine jC0.of' (ls := [.int x]) rfl rfl rfl (fun _ _ => Nat.le_of_ble_eq_true rfl) ?_
  refine b_X12_isLong_0 hG hP (c_X12_inN hG hP x (n := 60) rfl (by decide)) ?_
  rintro z μ1 ⟨rfl, hz⟩
  refine b_X12_isLong_7 hG hP ⟨rfl, hz⟩ ?_
  rcases hz with ⟨h, -⟩ | ⟨h, -⟩
  · exact Or.inr h
  · exact Or.inl h
theorem c_X12_road (hG : gMM G) {μ : jM} (hP : gNN μ) {v : Nat} {T : sT} {Lw : Nat → sLaw} {S : sR} (hm : mNow μ v T Lw S) (x y : Int32) : jC0 l mX12_road 3 G [.ref 112, .int x, .int y] μ (pI fun z μ' => z = rRoad T Lw S x y ∧ mQ μ μ') := by
  refine jC0.of' (ls := [.ref 112, .int x, .int y]) rfl rfl rfl (fun _ _ => Nat.le_of_ble_eq_true rfl) ?_
  refine b_X12_road_0 hG hP (c_X12_isRoad hG hP hm.1 x) ?_
  rintro z μ1 ⟨rfl, ⟨rfl, hx⟩ | ⟨rfl, hx⟩⟩
  · obtain ⟨k, hk, rfl⟩ := hx
    have h12 := hm.1.2.2.2.2.2.1.2.1
    refine b_X12_road_5 hG hP (fun _ => c_X12_copies hG hP hm) (fun _ => ?_) (fun h => absurd h (by decide))
    rintro μ2 ⟨hq, hm2, ⟨hr, hlo, hth, hod⟩, hP2, -⟩
    have ev : rRoad T Lw S (nI k) y = rdV T Lw S k y := gIf_in hk (by omega)
    rw [ev]
    have ht := hm2.1
    have hv2 := ht.1.1
    have e12 : (12 * (μ2.1 112 18)) + nI k = nI (12 * v + k) := ix12 ht.1.2 rfl
    have i12 : vp_in ((12 * (μ2.1 112 18)) + nI k) 24 := by rw [e12]; exact vp_in_nI (by omega) (by decide)
    have c12 : ((12 * (μ2.1 112 18)) + nI k).toNatClampNeg = 12 * v + k := by rw [e12]; exact nI_clamp (by omega)
    have ck : (nI k).toNatClampNeg = k := nI_clamp (by omega)
    obtain ⟨g1, g2, g3, g4⟩ := ht.2.2.1 k hk
    have a7 : ∀ {y : Int32}, y = 7 → (12 * (y - 6)) + nI k = nI (12 + k) := fun h => by rw [h, show (12 : Int32) * (7 - 6) = nI 12 from by decide, nI_add]
    have a8 : ∀ {y : Int32}, y = 8 → (12 * (y - 6)) + nI k = nI (24 + k) := fun h => by rw [h, show (12 : Int32) * (8 - 6) = nI 24 from by decide, nI_add]
    refine b_X12_road_14 hG hP2 (fun _ => i12) (fun h0 => ⟨?_, hq⟩) (fun _ _ => i12) (fun h0 h1 => ⟨?_, hq⟩) (fun _ _ _ => i12) (fun h0 h1 h2 => ⟨?_, hq⟩) (fun _ _ _ _ => c_X12_overField hG hP2 ht hk) (fun h0 h1 h2 h3 => ?_) (fun _ _ _ _ _ => c_X12_hasGate hG hP2 k) (fun h0 h1 h2 h3 h4 => ?_) (fun _ _ _ _ _ _ => vp_in_nI (by omega) (by decide)) (fun h0 h1 h2 h3 h4 h5 => ⟨?_, hq⟩) (fun _ _ _ _ _ _ _ => c_X12_isDown hG hP2 ht hk) (fun h0 h1 h2 h3 h4 h5 h6 => ?_) (fun _ _ _ _ _ _ _ h7 => by rw [a7 h7]; exact vp_in_nI (by omega) (by decide)) (fun h0 h1 h2 h3 h4 h5 h6 h7 => ⟨?_, hq⟩) (fun _ _ _ _ _ _ _ _ h8 => by rw [a8 h8]; exact vp_in_nI (by omega) (by decide)) (fun h0 h1 h2 h3 h4 h5 h6 h7 h8 => ⟨?_, hq⟩) (fun h0 h1 h2 h3 h4 h5 h6 h7 h8 => ⟨?_, hq⟩)
    · rw [c12, g1, rdV, if_pos h0]
    · rw [c12, g2, rdV, if_neg h0, if_pos h1]
    · rw [c12, g3, rdV, if_neg h0, if_neg h1, if_pos h2]
    · rintro z μ3 ⟨rfl, rfl⟩
      have h4 := (hm2.1.2.2.2.2.2.2.1 k hk).2.2.2.2.2
      have : rdV T Lw S k y = nI (T 4 k) := by rw [rdV, if_neg h0, if_neg h1, if_neg h2, if_pos h3]
      rw [this]
      have h01 : T 4 k = 0 ∨ T 4 k = 1 := by omega
      refine b_X12_road_114 hG hP2 (fun h => ⟨h.symm, hq⟩) (fun h => ⟨?_, hq⟩)
      rcases h01 with e | e
      · rw [e] at h; exact absurd rfl h
      · rw [e]; rfl
    · rintro z μ3 ⟨rfl, hz⟩
      have : rdV T Lw S k y = if sGt S k then 1 else 0 := by rw [rdV, if_neg h0, if_neg h1, if_neg h2, if_neg h3, if_pos h4]
      rw [this]
      rw [hr] at hz
      rcases hz with ⟨rfl, hg⟩ | ⟨rfl, hg⟩
      · exact b_X12_road_128 hG hP2 (fun h => absurd h (by decide)) (fun _ => ⟨(if_pos hg).symm, hq⟩)
      · exact b_X12_road_128 hG hP2 (fun _ => ⟨(if_neg hg).symm, hq⟩) (fun h => absurd rfl h)
    · rw [ck, hr, rdV, if_neg h0, if_neg h1, if_neg h2, if_neg h3, if_neg h4, if_pos h5]
    · rintro z μ3 ⟨ho3, rfl⟩
      have : rdV T Lw S k y = if sDn T Lw S k then 1 else 0 := by rw [rdV, if_neg h0, if_neg h1, if_neg h2, if_neg h3, if_neg h4, if_neg h5, if_pos h6]
      rw [this, hr]
      have hq3 : mQ μ1 μ3 := hq.trans ⟨ho3.mono (by decide) (by decide), fun i hi => by rw [ho3.c 152 (by decide) (by decide)]; exact hm2.2.2.1 i hi⟩
      by_cases hd : sDn T Lw S k
      · rw [if_pos hd]; exact b_X12_road_149 hG (ho3.gNN hP2) (fun h => absurd h (by decide)) (fun _ => ⟨rfl, hq3⟩)
      · rw [if_neg hd]; exact b_X12_road_149 hG (ho3.gNN hP2) (fun _ => ⟨rfl, hq3⟩) (fun h => absurd rfl h)
    · rw [a7 h7, nI_clamp (by omega), hr, rdV, if_neg h0, if_neg h1, if_neg h2, if_neg h3, if_neg h4, if_neg h5, if_neg h6, if_pos h7]
    · rw [a8 h8, nI_clamp (by omega), hr, rdV, if_neg h0, if_neg h1, if_neg h2, if_neg h3, if_neg h4, if_neg h5, if_neg h6, if_neg h7, if_pos h8]
    · rw [rdV, if_neg h0, if_neg h1, if_neg h2, if_neg h3, if_neg h4, if_neg h5, if_neg h6, if_neg h7, if_neg h8]
  · exact b_X12_road_5 (ψ0 := fun _ => True) hG hP (fun h => absurd rfl h) (fun h => absurd rfl h) (fun _ => ⟨(gIf_out hx).symm, mQ.refl hm.2.2.1⟩)
theorem c_X12_ghost (hG : gMM G) {μ : jM} (hP : gNN μ) {v : Nat} {T : sT} {Lw : Nat → sLaw} {S : sR} (hm : mNow μ v T Lw S) (x y : Int32) : jC0 l mX12_ghost 2 G [.ref 112, .int x, .int y] μ (pI fun z μ' => z = rGhost T S x y ∧ mQ μ μ') := by
  refine jC0.of' (ls := [.ref 112, .int x, .int y]) rfl rfl rfl (fun _ _ => Nat.le_of_ble_eq_true rfl) ?_
  refine b_X12_ghost_0 hG hP (c_X12_isGhost hG hP hm.1 x) ?_
  rintro z μ1 ⟨rfl, ⟨rfl, hx⟩ | ⟨rfl, hx⟩⟩
  · obtain ⟨a, ha, rfl⟩ := hx
    have h7g := hm.1.2.2.2.2.2.1.2.2.1
    refine b_X12_ghost_5 hG hP (fun _ => c_X12_copies hG hP hm) (fun _ => ?_) (fun h => absurd h (by decide))
    rintro μ2 ⟨hq, hm2, ⟨hr, hlo, hth, hod⟩, hP2, -⟩
    have ev : rGhost T S (nI a) y = ghV T S a y := gIf_in ha (by omega)
    rw [ev]
    have ht := hm2.1
    have hv2 := ht.1.1
    have e7 : (7 * (μ2.1 112 18)) + nI a = nI (7 * v + a) := ix7 ht.1.2 rfl
    have i7 : vp_in ((7 * (μ2.1 112 18)) + nI a) 14 := by rw [e7]; exact vp_in_nI (by omega) (by decide)
    have c7 : ((7 * (μ2.1 112 18)) + nI a).toNatClampNeg = 7 * v + a := by rw [e7]; exact nI_clamp (by omega)
    obtain ⟨g1, g2, g3, g4, g5⟩ := ht.2.2.2.1 a ha
    have a4 : ∀ {y : Int32}, y = 4 → (36 + (7 * (y - 4))) + nI a = nI (36 + a) := fun h => by rw [h, show (36 : Int32) + 7 * (4 - 4) = nI 36 from by decide, nI_add]
    have a5 : ∀ {y : Int32}, y = 5 → (36 + (7 * (y - 4))) + nI a = nI (43 + a) := fun h => by rw [h, show (36 : Int32) + 7 * (5 - 4) = nI 43 from by decide, nI_add]
    have a6 : ∀ {y : Int32}, y = 6 → (36 + (7 * (y - 4))) + nI a = nI (50 + a) := fun h => by rw [h, show (36 : Int32) + 7 * (6 - 4) = nI 50 from by decide, nI_add]
    have a7 : ∀ {y : Int32}, y = 7 → (36 + (7 * (y - 4))) + nI a = nI (57 + a) := fun h => by rw [h, show (36 : Int32) + 7 * (7 - 4) = nI 57 from by decide, nI_add]
    refine b_X12_ghost_14 hG hP2 (fun _ => i7) (fun h0 => ⟨?_, hq⟩) (fun _ _ => i7) (fun h0 h1 => ⟨?_, hq⟩) (fun _ _ _ => i7) (fun h0 h1 h2 => ⟨?_, hq⟩) (fun _ _ _ _ => c_X12_isHis hG hP2 ht ha) (fun h0 h1 h2 h3 => ?_) (fun _ _ _ _ h => by rw [a4 h]; exact vp_in_nI (by omega) (by decide)) (fun h0 h1 h2 h3 h4 => ⟨?_, hq⟩) (fun _ _ _ _ _ h => by rw [a5 h]; exact vp_in_nI (by omega) (by decide)) (fun h0 h1 h2 h3 h4 h5 => ⟨?_, hq⟩) (fun _ _ _ _ _ _ h => by rw [a6 h]; exact vp_in_nI (by omega) (by decide)) (fun h0 h1 h2 h3 h4 h5 h6 => ⟨?_, hq⟩) (fun _ _ _ _ _ _ _ h => by rw [a7 h]; exact vp_in_nI (by omega) (by decide)) (fun h0 h1 h2 h3 h4 h5 h6 h7 => ⟨?_, hq⟩) (fun h0 h1 h2 h3 h4 h5 h6 h7 => ⟨?_, hq⟩)
    · rw [c7, g3, ghV, if_pos h0]
    · rw [c7, g4, ghV, if_neg h0, if_pos h1]
    · rw [c7, g5, ghV, if_neg h0, if_neg h1, if_pos h2]
    · rintro z μ3 ⟨rfl, hz⟩
      have : ghV T S a y = if S 67 - S 67 / nI (T 9 a) * nI (T 9 a) = 0 then 1 else 0 := by rw [ghV, if_neg h0, if_neg h1, if_neg h2, if_pos h3]
      rw [this]
      rw [hr] at hz
      rcases hz with ⟨rfl, hg⟩ | ⟨rfl, hg⟩
      · exact b_X12_ghost_110 hG hP2 (fun h => absurd h (by decide)) (fun _ => ⟨(if_pos hg).symm, hq⟩)
      · exact b_X12_ghost_110 hG hP2 (fun _ => ⟨(if_neg hg).symm, hq⟩) (fun h => absurd rfl h)
    · rw [a4 h4, nI_clamp (by omega), hr, ghV, if_neg h0, if_neg h1, if_neg h2, if_neg h3, if_pos h4]
    · rw [a5 h5, nI_clamp (by omega), hr, ghV, if_neg h0, if_neg h1, if_neg h2, if_neg h3, if_neg h4, if_pos h5]
    · rw [a6 h6, nI_clamp (by omega), hr, ghV, if_neg h0, if_neg h1, if_neg h2, if_neg h3, if_neg h4, if_neg h5, if_pos h6]
    · rw [a7 h7, nI_clamp (by omega), hr, ghV, if_neg h0, if_neg h1, if_neg h2, if_neg h3, if_neg h4, if_neg h5, if_neg h6, if_pos h7]
    · rw [ghV, if_neg h0, if_neg h1, if_neg h2, if_neg h3, if_neg h4, if_neg h5, if_neg h6, if_neg h7]
  · exact b_X12_ghost_5 (ψ0 := fun _ => True) hG hP (fun h => absurd rfl h) (fun h => absurd rfl h) (fun _ => ⟨(gIf_out hx).symm, mQ.refl hm.2.2.1⟩)
theorem c_X12_cost (hG : gMM G) {μ : jM} (hP : gNN μ) {v : Nat} {T : sT} {Lw : Nat → sLaw} {S : sR} (hm : mNow μ v T Lw S) (x y : Int32) : jC0 l mX12_cost 5 G [.ref 112, .int x, .int y] μ (pI fun z μ' => z = rCost T Lw S x y ∧ mQ μ μ') := by
  refine jC0.of' (ls := [.ref 112, .int x, .int y]) rfl rfl rfl (fun _ _ => Nat.le_of_ble_eq_true rfl) ?_
  have h12 := hm.1.2.2.2.2.2.1.2.1
  have h7 := hm.1.2.2.2.2.2.1.2.2.1
  refine b_X12_cost_0 hG hP (c_X12_isGhost hG hP hm.1 x) ?_
  rintro z μ1 ⟨rfl, ⟨rfl, hx⟩ | ⟨rfl, hx⟩⟩
  · obtain ⟨a, ha, rfl⟩ := hx
    have ev : rCost T Lw S (nI a) y = gIf y (T 0 1) (fun k => sCost T Lw S (nI (T 0 7)) (-1) a k) := gIf_in ha (by omega)
    rw [ev]
    refine b_X12_cost_5 hG hP (fun h => absurd h (by decide)) (fun _ => c_X12_isRoad hG hP hm.1 y) (fun _ => ?_)
    rintro z μ2 ⟨rfl, ⟨rfl, hy⟩ | ⟨rfl, hy⟩⟩
    · obtain ⟨k, hk, rfl⟩ := hy
      rw [gIf_in hk (by omega)]
      refine b_X12_cost_13 hG hP (fun _ => c_X12_copies hG hP hm) (fun _ => ?_) (fun h => absurd h (by decide))
      rintro μ3 ⟨hq, hm3, ⟨hr, hlo, hth, hod⟩, hP3, -⟩
      refine b_X12_cost_22 hG hP3 (c_X12_costOf hG hP3 hm3.1 ha hk (by rw [hr, hod]; exact rt_ok hm.2.2.2.2)) ?_
      rintro z μ4 ⟨ho4, rfl⟩
      rw [hr, hlo, hod]
      exact b_X12_cost_28 hG (ho4.gNN hP3) ⟨rfl, hq.trans ⟨ho4.mono (by decide) (by decide), fun i hi => by rw [ho4.c 152 (by decide) (by decide)]; exact hm3.2.2.1 i hi⟩⟩
    · exact b_X12_cost_13 (ψ0 := fun _ => True) hG hP (fun h => absurd rfl h) (fun h => absurd rfl h) (fun _ => ⟨(gIf_out hy).symm, mQ.refl hm.2.2.1⟩)
  · exact b_X12_cost_5 (ψ1 := fun _ _ => True) hG hP (fun _ => ⟨(gIf_out hx).symm, mQ.refl hm.2.2.1⟩) (fun h => absurd rfl h) (fun h => absurd rfl h)
theorem c_X12_paysByWay (hG : gMM G) {μ : jM} (hP : gNN μ) {v a : Nat} {T : sT} {Lw : Nat → sLaw} (ht : txM μ v T Lw) (ha : a < T 0 2) {W : List Nat} (hw : wyM μ W) (hl8 : W.length ≤ 8) (hWn : ∀ k ∈ W, k < T 0 1) {ow : Nat → Int32} (ho : ∀ k, k < T 0 1 → μ.1 155 k = ow k) : jC0 l mX12_paysByWay 0 G [.ref 112, .int (nI a)] μ (pI fun z μ' => μ' = μ ∧ z = if nI (T 8 a) ≤ sumW ow W 0 then nI (T 8 a) else sumW ow W 0) := by
  refine jC0.of' (ls := [.ref 112, .int (nI a), .null, .null, .null]) rfl rfl rfl (fun _ _ => Nat.le_of_ble_eq_true rfl) ?_
  have h7 := ht.2.2.2.2.2.1.2.2.1
  have h12 := ht.2.2.2.2.2.1.2.1
  have hv2 := ht.1.1
  have e7 : (7 * (μ.1 112 18)) + nI a = nI (7 * v + a) := ix7 ht.1.2 rfl
  refine b_X12_paysByWay_0 hG hP (by rw [e7]; exact vp_in_nI (by omega) (by decide)) ?_
  rw [e7, nI_clamp (by omega), (ht.2.2.2.1 a ha).2.2.2.1]
  obtain ⟨hw1, hw2⟩ := hw
  have loop : ∀ (W2 W1 : List Nat) (s : Int32), W = W1 ++ W2 → J l mX12_paysByWay (jZ0 0 G (pI fun z μ' => μ' = μ ∧ z = if nI (T 8 a) ≤ sumW ow W2 s then nI (T 8 a) else sumW ow W2 s)) G 0 0 20 [.ref 112, .null, .int (nI (T 8 a)), .int s, .int (nI W1.length)] [] μ := by
    intro W2
    induction W2 with
    | nil =>
      intro W1 s hWW
      rw [List.append_nil] at hWW
      have hle : μ.1 112 65 ≤ nI W1.length := by rw [hw1, hWW]; exact nI_le (Nat.le_refl _) (by rw [← hWW]; omega)
      exact b_X12_paysByWay_20 hG hP (fun _ h => ⟨rfl, (if_pos h).symm⟩) (fun _ h => ⟨rfl, (if_neg h).symm⟩) (fun h => absurd hle h) (fun h => absurd hle h) (fun h => absurd hle h)
    | cons k W2 ih =>
      intro W1 s hWW
      have hlen : W1.length < W.length := by rw [hWW]; simp
      have hk : k < T 0 1 := hWn k (by rw [hWW]; simp)
      have hgt : ¬ μ.1 112 65 ≤ nI W1.length := by rw [hw1]; exact nI_ge hlen (by omega)
      have hk3 : μ.1 156 (nI W1.length).toNatClampNeg = nI k := by
        rw [nI_clamp (by omega)]; exact hw2 _ _ (by rw [hWW]; simp)
      refine b_X12_paysByWay_20 hG hP (fun h => absurd h hgt) (fun h => absurd h hgt) (fun _ => vp_in_nI (by omega) (by decide)) (fun _ => by rw [hk3]; exact vp_in_nI (by omega) (by decide)) (fun _ => ?_)
      rw [hk3, nI_clamp (by omega), ho k hk, nI_inc]
      have := ih (W1 ++ [k]) (s + ow k) (by rw [hWW]; simp)
      rw [show (W1 ++ [k]).length = W1.length + 1 by simp] at this
      exact this
  exact loop W [] 0 rfl
theorem c_X12_way (hG : gMM G) {μ : jM} (hP : gNN μ) {v : Nat} {T : sT} {Lw : Nat → sLaw} {S : sR} (hm : mNow μ v T Lw S) (x y : Int32) : jC0 l mX12_way 7 G [.ref 112, .int x, .int y] μ (pI fun z μ' => z = rWay T Lw S x y ∧ mQ μ μ') := by
  refine jC0.of' (ls := [.ref 112, .int x, .int y, .null, .null]) rfl rfl rfl (fun _ _ => Nat.le_of_ble_eq_true rfl) ?_
  have hv := hm.1.2.2.2.2.2
  have h12 := hv.1.2.1
  have h7 := hv.1.2.2.1
  refine b_X12_way_0 hG hP (c_X12_isGhost hG hP hm.1 x) ?_
  rintro z μ1 ⟨rfl, ⟨rfl, hx⟩ | ⟨rfl, hx⟩⟩
  · obtain ⟨a, ha, rfl⟩ := hx
    have ev : rWay T Lw S (nI a) y = gIf y 4 (fun w => if sDs T Lw (nI (T 0 7)) (-1) S a (T 5 a) < INF then wyV T Lw S a w else -2) := gIf_in ha (by omega)
    rw [ev]
    refine b_X12_way_5 hG hP (fun h => absurd h (by decide)) (fun _ => c_X12_inN hG hP y (n := 3) rfl (by decide)) (fun _ => ?_)
    rintro z μ2 ⟨rfl, ⟨rfl, hy⟩ | ⟨rfl, hy⟩⟩
    · obtain ⟨w, hw, rfl⟩ := hy
      rw [gIf_in hw (by omega)]
      refine b_X12_way_14 hG hP (fun _ => c_X12_copies hG hP hm) (fun _ => ?_) (fun h => absurd h (by decide))
      rintro μ3 ⟨hq, hm3, ⟨hr, hlo, hth, hod⟩, hP3, -⟩
      refine b_X12_way_23 hG hP3 (q_find hG hP3 hm3 hr hlo hod (rt_ok hm.2.2.2.2) ha) ?_
      rintro z μ4 ⟨hq4, hm4, hP4, ho4, how, hlf, ⟨rfl, hI, hwy⟩ | ⟨rfl, hI⟩⟩
      · rw [if_pos hI]
        have hq' := hq.trans hq4
        have ht := hm4.1
        have hv2 := ht.1.1
        have h5 := (hv.2.2.1 a ha).1
        have h8 := hv.1.1
        have e7 : (7 * (μ4.1 112 18)) + nI a = nI (7 * v + a) := ix7 ht.1.2 rfl
        have c7 : ((7 * (μ4.1 112 18)) + nI a).toNatClampNeg = 7 * v + a := by rw [e7]; exact nI_clamp (by omega)
        have g130 := (ht.2.2.2.1 a ha).1
        have hWi := sWl_in hv hI
        have w4 : (nI w = 0 ↔ w = 0) ∧ (nI w = 1 ↔ w = 1) ∧ (nI w = 2 ↔ w = 2) := ⟨nI_eq (b := 0) (by omega) (by decide), nI_eq (b := 1) (by omega) (by decide), nI_eq (b := 2) (by omega) (by decide)⟩
        refine b_X12_way_28 hG hP4 (fun _ _ => by rw [e7]; exact vp_in_nI (by omega) (by decide)) (fun _ _ => by rw [c7, g130]; exact vp_in_nI (by omega) (by decide)) (fun _ h0 => ⟨?_, hq'⟩) (fun _ h0 h1 => ?_) (fun _ h0 h1 h2 => ⟨?_, hq'⟩) (fun _ _ _ _ => c_X12_paysByWay hG hP4 ht ha hwy hWi.1 hWi.2 how) (fun _ h0 h1 h2 => ?_) (fun h => absurd h (by decide))
        · rw [c7, g130, nI_clamp (by omega), hlf (T 5 a) (by omega), eD_fin hI, wyV, if_pos (w4.1.mp h0)]
        · have hw1 := w4.2.1.mp h1
          have : wyV T Lw S a w = sumW (fun k => nI (T 3 k)) (sWl T Lw (nI (T 0 7)) (-1) S a) 0 := by rw [wyV, if_neg (by omega), if_pos hw1]
          rw [this]
          obtain ⟨k1, k2⟩ := hwy
          generalize hWW : sWl T Lw (nI (T 0 7)) (-1) S a = W at k1 k2 hWi
          have loop : ∀ (W2 W1 : List Nat) (s : Int32), W = W1 ++ W2 → J l mX12_way (jZ0 7 G (pI fun z μ' => z = sumW (fun k => nI (T 3 k)) W2 s ∧ mQ μ2 μ')) G 0 0 87 [.ref 112, .null, .null, .int s, .int (nI W1.length)] [] μ4 := by
            intro W2
            induction W2 with
            | nil =>
              intro W1 s hWW
              rw [List.append_nil] at hWW
              have hle : μ4.1 112 65 ≤ nI W1.length := by rw [k1, hWW]; exact nI_le (Nat.le_refl _) (by rw [← hWW]; omega)
              exact b_X12_way_87 hG hP4 (fun _ => ⟨rfl, hq'⟩) (fun h => absurd hle h) (fun h => absurd hle h) (fun h => absurd hle h)
            | cons k W2 ih =>
              intro W1 s hWW
              have hlen : W1.length < W.length := by rw [hWW]; simp
              have hk : k < T 0 1 := hWi.2 k (by rw [hWW]; simp)
              have hgt : ¬ μ4.1 112 65 ≤ nI W1.length := by rw [k1]; exact nI_ge hlen (by omega)
              have hk3 : μ4.1 156 (nI W1.length).toNatClampNeg = nI k := by
                rw [nI_clamp (by omega)]; exact k2 _ _ (by rw [hWW]; simp)
              have e12 : (12 * (μ4.1 112 18)) + nI k = nI (12 * v + k) := ix12 ht.1.2 rfl
              refine b_X12_way_87 hG hP4 (fun h => absurd h hgt) (fun _ => vp_in_nI (by omega) (by decide)) (fun _ => by rw [hk3, e12]; exact vp_in_nI (by omega) (by decide)) (fun _ => ?_)
              rw [hk3, e12, nI_clamp (by omega), (ht.2.2.1 k hk).2.2.1, nI_inc]
              have := ih (W1 ++ [k]) (s + nI (T 3 k)) (by rw [hWW]; simp)
              rw [show (W1 ++ [k]).length = W1.length + 1 by simp] at this
              exact this
          exact loop W [] 0 rfl
        · have hw2 := w4.2.2.mp h2
          rw [hwy.1, wyV, if_neg (by omega), if_neg (by omega), if_pos hw2]
        · rintro z μ5 ⟨rfl, rfl⟩
          refine b_X12_way_137 hG hP4 ⟨?_, hq'⟩
          rw [wyV, if_neg (fun z => h0 (w4.1.mpr z)), if_neg (fun z => h1 (w4.2.1.mpr z)), if_neg (fun z => h2 (w4.2.2.mpr z))]
      · rw [if_neg hI]
        exact b_X12_way_28 (ψ3 := fun _ _ => True) hG hP4 (fun h => absurd rfl h) (fun h => absurd rfl h) (fun h => absurd rfl h) (fun h => absurd rfl h) (fun h => absurd rfl h) (fun h => absurd rfl h) (fun h => absurd rfl h) (fun _ => ⟨rfl, hq.trans hq4⟩)
    · exact b_X12_way_14 (ψ0 := fun _ => True) hG hP (fun h => absurd rfl h) (fun h => absurd rfl h) (fun _ => ⟨(gIf_out hy).symm, mQ.refl hm.2.2.1⟩)
  · exact b_X12_way_5 (ψ1 := fun _ _ => True) hG hP (fun _ => ⟨(gIf_out hx).symm, mQ.refl hm.2.2.1⟩) (fun h => absurd rfl h) (fun h => absurd rfl h)
theorem c_X12_wayAt (hG : gMM G) {μ : jM} (hP : gNN μ) {v : Nat} {T : sT} {Lw : Nat → sLaw} {S : sR} (hm : mNow μ v T Lw S) (x y : Int32) : jC0 l mX12_wayAt 7 G [.ref 112, .int x, .int y] μ (pI fun z μ' => z = rWayAt T Lw S x y ∧ mQ μ μ') := by
  refine jC0.of' (ls := [.ref 112, .int x, .int y]) rfl rfl rfl (fun _ _ => Nat.le_of_ble_eq_true rfl) ?_
  have hv := hm.1.2.2.2.2.2
  have h12 := hv.1.2.1
  have h7 := hv.1.2.2.1
  refine b_X12_wayAt_0 hG hP (c_X12_isGhost hG hP hm.1 x) ?_
  rintro z μ1 ⟨rfl, ⟨rfl, hx⟩ | ⟨rfl, hx⟩⟩
  · obtain ⟨a, ha, rfl⟩ := hx
    have ev : rWayAt T Lw S (nI a) y = if 0 ≤ y then (if sDs T Lw (nI (T 0 7)) (-1) S a (T 5 a) < INF then waV T Lw S a y else -2) else -1 := gIf_in ha (by omega)
    rw [ev]
    refine b_X12_wayAt_5 hG hP (fun h => absurd h (by decide)) (fun _ _ => c_X12_copies hG hP hm) (fun _ hy => ?_) (fun _ hy => ⟨(if_neg hy).symm, mQ.refl hm.2.2.1⟩)
    rw [if_pos hy]
    rintro μ3 ⟨hq, hm3, ⟨hr, hlo, hth, hod⟩, hP3, -⟩
    refine b_X12_wayAt_18 hG hP3 (q_find hG hP3 hm3 hr hlo hod (rt_ok hm.2.2.2.2) ha) ?_
    rintro z μ4 ⟨hq4, hm4, hP4, ho4, how, hlf, ⟨rfl, hI, hwy⟩ | ⟨rfl, hI⟩⟩
    · rw [if_pos hI]
      have hWi := sWl_in hv hI
      unfold waV
      obtain ⟨k1, k2⟩ := hwy
      generalize hWW : sWl T Lw (nI (T 0 7)) (-1) S a = W at k1 k2 hWi
      have hyi : ∀ h : ¬ μ4.1 112 65 ≤ y, isN y W.length := fun h => isN_of (by omega) (fun z => by rw [i32_le] at hy; rw [i32_lt] at z; omega) (by rw [← k1]; exact h)
      refine b_X12_wayAt_23 hG hP4 (fun _ h => ⟨by rw [← k1, if_pos h], hq.trans hq4⟩) (fun _ h => ?_) (fun _ h => ⟨?_, hq.trans hq4⟩) (fun h => absurd h (by decide))
      · obtain ⟨j, hj, rfl⟩ := hyi h; exact vp_in_nI (by omega) (by decide)
      · rw [← k1, if_neg h]
        obtain ⟨j, hj, rfl⟩ := hyi h
        rw [nI_clamp (by omega), k2 j W[j] (List.getElem?_eq_getElem hj), List.getElem?_eq_getElem hj]; rfl
    · rw [if_neg hI]
      exact b_X12_wayAt_23 hG hP4 (fun h => absurd rfl h) (fun h => absurd rfl h) (fun h => absurd rfl h) (fun _ => ⟨rfl, hq.trans hq4⟩)
  · exact b_X12_wayAt_5 (ψ1 := fun _ => True) hG hP (fun _ => ⟨(gIf_out hx).symm, mQ.refl hm.2.2.1⟩) (fun h => absurd rfl h) (fun h => absurd rfl h) (fun h => absurd rfl h)
end ModQ
