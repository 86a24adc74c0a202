/-! THE CLASS ANSWERS: wayAt, free, saves, tonight, pays, seen, put, stop, busiest, best, keepers, breaks, first, cutOff, year -/
section ClsC
variable {l : Launch} {G : jG}
theorem i32_nle {x y : Int32} (h : ¬ x ≤ y) : y < x := by rw [i32_le] at h; rw [i32_lt]; omega
theorem isN_ok {x : Int32} {b : Int32} {n : Nat} (hn : n < 2 ^ 31) (hb : b = nI n) (h0 : ¬ x < 0) (h1 : x ≤ b) : isN x (n + 1) := (isN_in (x := x) (a := 0) (b := b) hn rfl hb).mp ⟨by rw [i32_lt] at h0; rw [i32_le]; omega, h1⟩
theorem isN_big {x b : Int32} {n : Nat} (hn : n < 2 ^ 31) (hb : b = nI n) (h : ¬ x ≤ b) : ¬ isN x (n + 1) := isN_gt hn (by rw [← hb]; exact i32_nle h)
theorem isN_big' {x b : Int32} {n : Nat} (hn : n < 2 ^ 31) (hb : b = nI n) (h : b < x) : ¬ isN x (n + 1) := isN_gt hn (by rw [← hb]; exact h)
theorem one_lt {x : Int32} {n : Nat} (hn : n ≤ 2 ^ 31) (h : x < 1) : ¬ ∃ k, k < n ∧ k ≠ 0 ∧ x = nI k := by
  rintro ⟨k, hk, h0, rfl⟩
  rw [i32_lt, nI_toInt (by omega), show (1 : Int32).toInt = 1 from rfl] at h; omega
theorem one_gt {x b : Int32} {n : Nat} (hn : n < 2 ^ 31) (hb : b = nI n) (h : b < x) : ¬ ∃ k, k < n + 1 ∧ k ≠ 0 ∧ x = nI k := fun ⟨k, hk, _, e⟩ => isN_big' hn hb h ⟨k, hk, e⟩
theorem one_ok {x b : Int32} {n : Nat} (hn : n < 2 ^ 31) (hb : b = nI n) (h0 : ¬ x < 1) (h1 : x ≤ b) : ∃ k, k < n + 1 ∧ k ≠ 0 ∧ x = nI k := (isN_1 (x := x) (a := 1) (b := b) hn rfl hb).mp ⟨by rw [i32_lt] at h0; rw [i32_le]; omega, h1⟩
theorem c_X11_wayAt (hG : gGG G) {μ : jM} (hP : gPP μ) {a : aS} {B t d : Nat} (hc : cJ G a B t d μ) (x y : Int32) : jC0 l mX11_wayAt 4 G [.ref 0, .int x, .int y] μ (pI fun z μ' => z = rWayAt (gT a) (gL a) (gS a) x y ∧ cJ G a B t d μ' ∧ gPP μ' ∧ hiC μ μ') := by
  refine jC0.of' (ls := [.ref 0, .int x, .int y, .null]) rfl rfl rfl (fun _ _ => Nat.le_of_ble_eq_true rfl) ?_
  have hf := hc.1
  have hv := hf.1.2.2.1.2.2.2.2.2
  have h12 := hv.1.2.1
  have h7 := hv.1.2.2.1
  obtain ⟨r, hr9, hr⟩ := hf.2.2.1.2.2
  have hod := od_plain hr9 hr (gS a) rfl
  have st := And.intro hc (And.intro hP (hiC.refl (μ := μ)))
  refine b_X11_wayAt_0 hG hP (c_X11_isGhost hG hP hf x) ?_
  rintro z μ1 ⟨rfl, ⟨rfl, hx⟩ | ⟨rfl, hx⟩⟩
  · obtain ⟨g, hg, rfl⟩ := hx
    rw [show rWayAt (gT a) (gL a) (gS a) (nI g) y = _ from gIf_in hg (by omega)]
    refine b_X11_wayAt_5 hG hP (fun h => absurd h (by decide)) (fun _ _ => fc_now52 hG hP hf) (fun _ hy => ?_) (fun _ hy => ⟨(if_neg hy).symm, st⟩)
    rw [if_pos hy]
    rintro μ3 ⟨hP3, hS3, ho3⟩
    refine b_X11_wayAt_25 hG hP3 (c_X10_findWay hG hP3 hS3 hg) ?_
    rintro z μ4 ⟨rfl, ho4, hS4, hdb, hwy⟩
    have ho4' := cOff.w5 ho3 ho4 (fun c hc => fn_nw (by omega) hc)
    have hP4 := ho4.gPP hP3
    obtain ⟨hc4, hi4⟩ := cJ_n hc hS4 ho4'
    have st4 := And.intro hc4 (And.intro hP4 hi4)
    rw [sDs_od hod] at *
    have hy4 := tO_way hG hP4 (a := g) (by omega)
    have cg : (nI g).toNatClampNeg = g := nI_clamp (by omega)
    by_cases hI : sDs (gT a) (gL a) (nI (gT a 0 7)) (-1) (gS a) g (gT a 5 g) < INF
    · rw [if_pos hI, if_pos hI]
      have hI' : sDs (gT a) (gL a) (nI (gT a 0 7)) (gS a 65) (gS a) g (gT a 5 g) < INF := by rw [sDs_od hod]; exact hI
      obtain ⟨-, w5, w3, -⟩ := wyC_W hwy hI'
      have hWi := sWl_in hv hI'
      rw [sWl_od hod] at w5 w3 hWi
      unfold waV
      generalize sWl (gT a) (gL a) (nI (gT a 0 7)) (-1) (gS a) g = W at *
      have hyi : ∀ h : ¬ μ4.1 (17 + 5 * g) 5 ≤ y, isN y W.length := fun h => isN_of (by omega) (fun z => by rw [i32_le] at hy; rw [i32_lt] at z; omega) (by rw [← w5]; exact h)
      refine b_X11_wayAt_33 (y := 17 + 5 * g) hG hP4 hy4 (fun _ => vp_in_nI (by omega) (by decide)) (fun _ => by rw [cg]; exact way_ref hP4 (by omega)) (fun _ h => ⟨by rw [← w5, if_pos h], st4⟩) (fun _ h => ?_) (fun _ h => ⟨?_, st4⟩) (fun h => absurd h (by decide))
      · obtain ⟨j, hj, rfl⟩ := hyi h; exact vp_in_nI (by omega) (by decide)
      · rw [← w5, if_neg h]
        obtain ⟨j, hj, rfl⟩ := hyi h
        rw [nI_clamp (by omega), w3 j W[j] (List.getElem?_eq_getElem hj), List.getElem?_eq_getElem hj]; rfl
    · rw [if_neg hI, if_neg hI]
      exact b_X11_wayAt_33 (y := 17 + 5 * g) hG hP4 hy4 (fun h => absurd rfl h) (fun h => absurd rfl h) (fun h => absurd rfl h) (fun h => absurd rfl h) (fun h => absurd rfl h) (fun _ => ⟨rfl, st4⟩)
  · exact b_X11_wayAt_5 (ψ1 := fun _ => True) hG hP (fun _ => ⟨(gIf_out hx).symm, st⟩) (fun h => absurd rfl h) (fun h => absurd rfl h) (fun h => absurd rfl h)
theorem c_X11_free (hG : gGG G) {μ : jM} (hP : gPP μ) {a : aS} {B t d : Nat} (hc : cJ G a B t d μ) : jC0 l mX11_free 5 G [.ref 0] μ (pI fun z μ' => z = rFree (gT a) (gL a) (gS a) ∧ cJ G a B t d μ' ∧ gPP μ' ∧ hiC μ μ') := by
  refine jC0.of' (ls := [.ref 0]) rfl rfl rfl (fun _ _ => Nat.le_of_ble_eq_true rfl) ?_
  have hf := hc.1
  obtain ⟨r, hr9, hr⟩ := hf.2.2.1.2.2
  refine b_X11_free_0 hG hP (fc_now52 hG hP hf) ?_
  rintro μ3 ⟨hP3, hS3, ho3⟩
  refine b_X11_free_11 hG hP3 (c_X10_freeGhosts hG hP3 hS3) ?_
  rintro z μ4 ⟨rfl, hS4, ho4⟩
  obtain ⟨hc4, hi4⟩ := cJ_n hc hS4 (cOff.w5 ho3 ho4 (fun c hc => fa_nw hc))
  exact b_X11_free_18 hG (ho4.gPP hP3) ⟨sFr_od (od_plain hr9 hr (gS a) rfl) _, hc4, ho4.gPP hP3, hi4⟩
theorem c_X11_saves (hG : gGG G) {μ : jM} (hP : gPP μ) {a : aS} {B t d : Nat} (hc : cJ G a B t d μ) (x : Int32) : jC0 l mX11_saves 5 G [.ref 0, .int x] μ (pI fun z μ' => z = rSaves (gT a) (gL a) (gS a) x ∧ cJ G a B t d μ' ∧ gPP μ' ∧ hiC μ μ') := by
  refine jC0.of' (ls := [.ref 0, .int x]) rfl rfl rfl (fun _ _ => Nat.le_of_ble_eq_true rfl) ?_
  have hf := hc.1
  have hv := hf.1.2.2.1.2.2.2.2.2
  have h7 := hv.1.2.2.1
  obtain ⟨r, hr9, hr⟩ := hf.2.2.1.2.2
  have hod := od_plain hr9 hr (gS a) rfl
  have st := And.intro hc (And.intro hP (hiC.refl (μ := μ)))
  refine b_X11_saves_0 hG hP (c_X11_isGhost hG hP hf x) ?_
  rintro z μ1 ⟨rfl, ⟨rfl, hx⟩ | ⟨rfl, hx⟩⟩
  · obtain ⟨g, hg, rfl⟩ := hx
    rw [show rSaves (gT a) (gL a) (gS a) (nI g) = _ from gIf_in hg (by omega)]
    refine b_X11_saves_5 hG hP (fun _ => fc_now52 hG hP hf) (fun _ => ?_) (fun h => absurd h (by decide))
    rintro μ3 ⟨hP3, hS3, ho3⟩
    refine b_X11_saves_21 hG hP3 (c_X10_findWay hG hP3 hS3 hg) ?_
    rintro z μ4 ⟨rfl, ho4, hS4, hdb, hwy⟩
    have hP4 := ho4.gPP hP3
    obtain ⟨hc4, hi4⟩ := cJ_n hc hS4 (cOff.w5 ho3 ho4 (fun c hc => fn_nw (by omega) hc))
    rw [sDs_od hod] at *
    have hy4 := tO_way hG hP4 (a := g) (by omega)
    have cg : (nI g).toNatClampNeg = g := nI_clamp (by omega)
    by_cases hI : sDs (gT a) (gL a) (nI (gT a 0 7)) (-1) (gS a) g (gT a 5 g) < INF
    · rw [if_pos hI, if_pos hI]
      have hI' : sDs (gT a) (gL a) (nI (gT a 0 7)) (gS a 65) (gS a) g (gT a 5 g) < INF := by rw [sDs_od hod]; exact hI
      obtain ⟨w6, -⟩ := wyC_W hwy hI'
      rw [sDs_od hod] at w6
      refine b_X11_saves_29 (y := 17 + 5 * g) hG hP4 hy4 (fun _ => vp_in_nI (by omega) (by decide)) (fun _ => by rw [cg]; exact way_ref hP4 (by omega)) (fun _ => c_X1_costWithoutGates hG hP4 hc4.1 hg) (fun _ => ?_) (fun h => absurd h (by decide))
      rw [w6]
      rintro z μ5 ⟨hf5, ho5, rfl⟩
      obtain ⟨hc5, hi5⟩ := cJ_p hc4 hf5 ho5
      exact b_X11_saves_55 hG (ho5.gPP hP4) ⟨rfl, hc5, ho5.gPP hP4, hi4.trans hi5⟩
    · rw [if_neg hI, if_neg hI]
      exact b_X11_saves_29 (y := 17 + 5 * g) (ψ0 := fun _ _ => True) hG hP4 hy4 (fun h => absurd rfl h) (fun h => absurd rfl h) (fun h => absurd rfl h) (fun h => absurd rfl h) (fun _ => ⟨rfl, hc4, hP4, hi4⟩)
  · exact b_X11_saves_5 (ψ0 := fun _ => True) hG hP (fun h => absurd rfl h) (fun h => absurd rfl h) (fun _ => ⟨(gIf_out hx).symm, st⟩)
/-- a plain forecast -/
theorem fc_ahead (hG : gGG G) {μ : jM} (hP : gPP μ) {t B n : Nat} {T : sT} {Lw : Nat → sLaw} {S : sR} (hf : fcI G μ t T Lw S B) (hr3 : μ.1 59 = cRow S (S 65) (nI (T 0 7)) (thN T)) (hn : n ≤ 60) : jC0 l mX1_run 5 G [.ref 57, .int (nI n)] μ (pV fun μ' => gPP μ' ∧ fcI G μ' t T Lw S B ∧ cO5 (pnI t 59 0) (lnL t) μ μ' ∧ μ'.1 59 = cRow (nnS T Lw n S) (S 65) (nI (T 0 7)) (thN T)) := by
  have hv := hf.1.2.2.1.2.2.2.2.2
  obtain ⟨r, hr9, hr⟩ := hf.2.2.1.2.2
  refine (fc_run hG hP hf hr3 hf.2.2.1.1 ⟨⟨r, hr9, hr⟩, r, hr9, hr⟩ (by omega)).mono (pV_mono ?_)
  rintro μ' ⟨h1, h2, h3, h4⟩
  rw [nn_c hv hr9 hr] at h4
  exact ⟨h1, h2, h3, h4⟩
theorem c_X11_tonight (hG : gGG G) {μ : jM} (hP : gPP μ) {a : aS} {B t d : Nat} (hc : cJ G a B t d μ) (x : Int32) : jC0 l mX11_tonight 6 G [.ref 0, .int x] μ (pI fun z μ' => z = rTonight (gT a) (gL a) (gS a) x ∧ cJ G a B t d μ' ∧ gPP μ' ∧ hiC μ μ') := by
  refine jC0.of' (ls := [.ref 0, .int x]) rfl rfl rfl (fun _ _ => Nat.le_of_ble_eq_true rfl) ?_
  have hf := hc.1
  have hv := hf.1.2.2.1.2.2.2.2.2
  have st := And.intro hc (And.intro hP (hiC.refl (μ := μ)))
  refine b_X11_tonight_0 hG hP (fun h => ⟨(gIf_out (isN_lt h (by decide))).symm, st⟩) (fun _ _ => fc_start hG hP hf) (fun h0 h1 => ?_) (fun _ h => ⟨(gIf_out (isN_big (n := 2) (by decide) rfl h)).symm, st⟩)
  obtain ⟨w, hw, rfl⟩ := isN_ok (n := 2) (by decide) rfl h0 h1
  rw [show rTonight (gT a) (gL a) (gS a) (nI w) = _ from gIf_in hw (by decide)]
  rintro μ3 ⟨hP3, hf3, ho3, hr3⟩
  have ho3' : cO5 (pnI t 59 0) (lnL t) μ μ3 := ho3.mono (fun c hc => Or.inr (Or.inr (Or.inl hc))) (fun c hc => hc.elim)
  refine b_X11_tonight_18 hG hP3 (fc_ahead hG hP3 hf3 hr3 (n := 1) (by decide)) ?_
  rintro μ4 ⟨hP4, hf4, ho4, hr4⟩
  obtain ⟨hc4, hi4⟩ := cJ_p hc hf4 (ho3'.trans ho4)
  have st4 := And.intro hc4 (And.intro hP4 hi4)
  have w4 : (nI w = 0 ↔ w = 0) ∧ (nI w = 1 ↔ w = 1) := ⟨nI_eq (b := 0) (by omega) (by decide), nI_eq (b := 1) (by omega) (by decide)⟩
  have r53 := hf4.2.1
  obtain ⟨E, hE⟩ : ∃ E, E = nnS (gT a) (gL a) 1 (gS a) := ⟨_, rfl⟩
  rw [← hE] at hr4
  refine b_X11_tonight_26 hG hP4 (fun _ => fc_till hG hP4 hf4 hr4) (fun h0 => ?_) (fun _ _ => c_X1_grown hG hP4 (c := 50) (m := 7) (by decide) rfl rfl) (fun h0 h1 => ?_) (fun _ _ => c_X1_grown hG hP4 (c := 64) (m := 7) (by decide) rfl rfl) (fun h0 h1 => ?_)
  · rintro z μ5 ⟨rfl, rfl⟩
    refine b_X11_tonight_61 hG hP4 ⟨?_, st4⟩
    rw [tnV, if_pos (w4.1.mp h0), hE]
  · rintro z μ5 ⟨rfl, rfl⟩
    refine b_X11_tonight_73 hG hP4 ⟨?_, st4⟩
    rw [tnV, if_neg (fun z => h0 (w4.1.mpr z)), if_pos (w4.2.mp h1), ← hE, hr4, r53]
    exact dfs_congr 7 (fun i hi => by rw [show 50 + i = 7 + (43 + i) by omega, cRow_w (by omega), cRow_w (by omega)]; exact ⟨rfl, rfl⟩)
  · rintro z μ5 ⟨rfl, rfl⟩
    refine b_X11_tonight_85 hG hP4 ⟨?_, st4⟩
    rw [tnV, if_neg (fun z => h0 (w4.1.mpr z)), if_neg (fun z => h1 (w4.2.mpr z)), ← hE, hr4, r53]
    rw [dfs_congr (F' := E) (R' := gS a) (c' := 57) 7 (fun i hi => by rw [show 64 + i = 7 + (57 + i) by omega, cRow_w (by omega), cRow_w (by omega)]; exact ⟨rfl, rfl⟩)]
    have hs := (sNn_grow hv (lots := nI (gT a 0 7)) (od := -1) (th := 127) (S := gS a) 1).2.1
    have hs' : iS E = iS (gS a) := by rw [hE]; exact hs
    rw [dfs_sm, dfs_sm]
    unfold iS at hs'
    exact (alg2 _ _ _ _ hs').symm
theorem c_X11_pays (hG : gGG G) {μ : jM} (hP : gPP μ) {a : aS} {B t d : Nat} (hc : cJ G a B t d μ) (x y : Int32) : jC0 l mX11_pays 6 G [.ref 0, .int x, .int y] μ (pI fun z μ' => z = rPays (gT a) (gL a) (gS a) x y ∧ cJ G a B t d μ' ∧ gPP μ' ∧ hiC μ μ') := by
  refine jC0.of' (ls := [.ref 0, .int x, .int y]) rfl rfl rfl (fun _ _ => Nat.le_of_ble_eq_true rfl) ?_
  have hf := hc.1
  have hv := hf.1.2.2.1.2.2.2.2.2
  have h7 := hv.1.2.2.1
  have st := And.intro hc (And.intro hP (hiC.refl (μ := μ)))
  refine b_X11_pays_0 hG hP (c_X11_isGhost hG hP hf x) ?_
  rintro z μ1 ⟨rfl, ⟨rfl, hx⟩ | ⟨rfl, hx⟩⟩
  · obtain ⟨g, hg, rfl⟩ := hx
    rw [show rPays (gT a) (gL a) (gS a) (nI g) y = _ from gIf_in hg (by omega)]
    refine b_X11_pays_5 hG hP (fun h => absurd h (by decide)) (fun _ h => ⟨(gIf_out (isN_lt h (by decide))).symm, st⟩) (fun _ _ _ => fc_start hG hP hf) (fun _ h0 h1 => ?_) (fun _ _ h => ⟨(gIf_out (isN_big (n := 60) (by decide) rfl h)).symm, st⟩)
    obtain ⟨n, hn, rfl⟩ := isN_ok (n := 60) (by decide) rfl h0 h1
    rw [gIf_in hn (by decide)]
    rintro μ3 ⟨hP3, hf3, ho3, hr3⟩
    have ho3' : cO5 (pnI t 59 0) (lnL t) μ1 μ3 := ho3.mono (fun c hc => Or.inr (Or.inr (Or.inl hc))) (fun c hc => hc.elim)
    refine b_X11_pays_27 hG hP3 (fc_ahead hG hP3 hf3 hr3 (by omega)) ?_
    rintro μ4 ⟨hP4, hf4, ho4, hr4⟩
    obtain ⟨hc4, hi4⟩ := cJ_p hc hf4 (ho3'.trans ho4)
    refine b_X11_pays_35 hG hP4 (c_X1_grown hG hP4 (c := 43 + g) (m := 1) (by omega) (nI_add 43 g) rfl) ?_
    rintro z μ5 ⟨rfl, rfl⟩
    refine b_X11_pays_47 hG hP4 ⟨?_, hc4, hP4, hi4⟩
    rw [dfs1, hr4, hf4.2.1, show 43 + g = 7 + (36 + g) by omega, cRow_w (by omega), cRow_w (by omega)]
  · exact b_X11_pays_5 (ψ2 := fun _ => True) hG hP (fun _ => ⟨(gIf_out hx).symm, st⟩) (fun h => absurd rfl h) (fun h => absurd rfl h) (fun h => absurd rfl h) (fun h => absurd rfl h)
theorem c_X11_seen (hG : gGG G) {μ : jM} (hP : gPP μ) {a : aS} {B t d : Nat} (hc : cJ G a B t d μ) (x y : Int32) : jC0 l mX11_seen 6 G [.ref 0, .int x, .int y] μ (pI fun z μ' => z = rSeen (gT a) (gL a) (gS a) x y ∧ cJ G a B t d μ' ∧ gPP μ' ∧ hiC μ μ') := by
  refine jC0.of' (ls := [.ref 0, .int x, .int y]) rfl rfl rfl (fun _ _ => Nat.le_of_ble_eq_true rfl) ?_
  have hf := hc.1
  have hv := hf.1.2.2.1.2.2.2.2.2
  have h12 := hv.1.2.1
  have st := And.intro hc (And.intro hP (hiC.refl (μ := μ)))
  refine b_X11_seen_0 hG hP (c_X11_isRoad hG hP hf x) ?_
  rintro z μ1 ⟨rfl, ⟨rfl, hx⟩ | ⟨rfl, hx⟩⟩
  · obtain ⟨g, hg, rfl⟩ := hx
    rw [show rSeen (gT a) (gL a) (gS a) (nI g) y = _ from gIf_in hg (by omega)]
    refine b_X11_seen_5 hG hP (fun h => absurd h (by decide)) (fun _ h => ⟨(gIf_out (isN_lt h (by decide))).symm, st⟩) (fun _ _ _ => fc_start hG hP hf) (fun _ h0 h1 => ?_) (fun _ _ h => ⟨(gIf_out (isN_big (n := 60) (by decide) rfl h)).symm, st⟩)
    obtain ⟨n, hn, rfl⟩ := isN_ok (n := 60) (by decide) rfl h0 h1
    rw [gIf_in hn (by decide)]
    rintro μ3 ⟨hP3, hf3, ho3, hr3⟩
    have ho3' : cO5 (pnI t 59 0) (lnL t) μ1 μ3 := ho3.mono (fun c hc => Or.inr (Or.inr (Or.inl hc))) (fun c hc => hc.elim)
    refine b_X11_seen_27 hG hP3 (fc_ahead hG hP3 hf3 hr3 (by omega)) ?_
    rintro μ4 ⟨hP4, hf4, ho4, hr4⟩
    obtain ⟨hc4, hi4⟩ := cJ_p hc hf4 (ho3'.trans ho4)
    refine b_X11_seen_35 hG hP4 (c_X1_grown hG hP4 (c := 19 + g) (m := 1) (by omega) (nI_add 19 g) rfl) ?_
    rintro z μ5 ⟨rfl, rfl⟩
    refine b_X11_seen_47 hG hP4 ⟨?_, hc4, hP4, hi4⟩
    rw [dfs1, hr4, hf4.2.1, show 19 + g = 7 + (12 + g) by omega, cRow_w (by omega), cRow_w (by omega)]
  · exact b_X11_seen_5 (ψ2 := fun _ => True) hG hP (fun _ => ⟨(gIf_out hx).symm, st⟩) (fun h => absurd rfl h) (fun h => absurd rfl h) (fun h => absurd rfl h) (fun h => absurd rfl h)
theorem c_X11_breaks (hG : gGG G) {μ : jM} (hP : gPP μ) {a : aS} {B t d : Nat} (hc : cJ G a B t d μ) (x : Int32) : jC0 l mX11_breaks 6 G [.ref 0, .int x] μ (pI fun z μ' => z = rBreaks (gT a) (gL a) (gS a) x ∧ cJ G a B t d μ' ∧ gPP μ' ∧ hiC μ μ') := by
  refine jC0.of' (ls := [.ref 0, .int x]) rfl rfl rfl (fun _ _ => Nat.le_of_ble_eq_true rfl) ?_
  have hf := hc.1
  have h12 := hf.1.2.2.1.2.2.2.2.2.1.2.1
  refine b_X11_breaks_0 hG hP (c_X11_isRoad hG hP hf x) ?_
  rintro z μ1 ⟨rfl, ⟨rfl, hx⟩ | ⟨rfl, hx⟩⟩
  · obtain ⟨k, hk, rfl⟩ := hx
    rw [show rBreaks (gT a) (gL a) (gS a) (nI k) = _ from gIf_in hk (by omega)]
    refine b_X11_breaks_5 hG hP (fun h => absurd h (by decide)) (fun _ => c_X1_nightsUntilBroken hG hP hf hk) (fun _ => ?_)
    intro z μ2 hz2
    obtain ⟨hf2, ho2, hz⟩ := hz2
    obtain ⟨hc2, hi2⟩ := cJ_p hc hf2 ho2
    exact b_X11_breaks_16 hG (ho2.gPP hP) ⟨hz, hc2, ho2.gPP hP, hi2⟩
  · exact b_X11_breaks_5 (ψ1 := fun _ _ => True) hG hP (fun _ => ⟨(gIf_out hx).symm, hc, hP, hiC.refl⟩) (fun h => absurd rfl h) (fun h => absurd rfl h)
theorem c_X11_cutOff (hG : gGG G) {μ : jM} (hP : gPP μ) {a : aS} {B t d : Nat} (hc : cJ G a B t d μ) (x : Int32) : jC0 l mX11_cutOff 6 G [.ref 0, .int x] μ (pI fun z μ' => z = rCutOff (gT a) (gL a) (gS a) x ∧ cJ G a B t d μ' ∧ gPP μ' ∧ hiC μ μ') := by
  refine jC0.of' (ls := [.ref 0, .int x]) rfl rfl rfl (fun _ _ => Nat.le_of_ble_eq_true rfl) ?_
  have hf := hc.1
  have h7 := hf.1.2.2.1.2.2.2.2.2.1.2.2.1
  refine b_X11_cutOff_0 hG hP (c_X11_isGhost hG hP hf x) ?_
  rintro z μ1 ⟨rfl, ⟨rfl, hx⟩ | ⟨rfl, hx⟩⟩
  · obtain ⟨k, hk, rfl⟩ := hx
    rw [show rCutOff (gT a) (gL a) (gS a) (nI k) = _ from gIf_in hk (by omega)]
    refine b_X11_cutOff_5 hG hP (fun h => absurd h (by decide)) (fun _ => c_X1_nightsUntilCutOff hG hP hf hk) (fun _ => ?_)
    intro z μ2 hz2
    obtain ⟨hf2, ho2, hz⟩ := hz2
    obtain ⟨hc2, hi2⟩ := cJ_p hc hf2 ho2
    exact b_X11_cutOff_16 hG (ho2.gPP hP) ⟨hz, hc2, ho2.gPP hP, hi2⟩
  · exact b_X11_cutOff_5 (ψ1 := fun _ _ => True) hG hP (fun _ => ⟨(gIf_out hx).symm, hc, hP, hiC.refl⟩) (fun h => absurd rfl h) (fun h => absurd rfl h)
theorem c_X11_year (hG : gGG G) {μ : jM} (hP : gPP μ) {a : aS} {B t d : Nat} (hc : cJ G a B t d μ) (x y : Int32) : jC0 l mX11_year 7 G [.ref 0, .int x, .int y] μ (pI fun z μ' => z = rYear (gT a) (gL a) (gS a) x y ∧ cJ G a B t d μ' ∧ gPP μ' ∧ hiC μ μ') := by
  refine jC0.of' (ls := [.ref 0, .int x, .int y]) rfl rfl rfl (fun _ _ => Nat.le_of_ble_eq_true rfl) ?_
  have hf := hc.1
  have st := And.intro hc (And.intro hP (hiC.refl (μ := μ)))
  have inx : ¬ x < 0 → ¬ (60 : Int32) < x → isN x 61 := fun h0 h1 => isN_no (n := 60) (by decide) h0 h1
  have yno : isN x 61 → (¬ ∃ k, k < 21 ∧ k ≠ 0 ∧ y = nI k) → rYear (gT a) (gL a) (gS a) x y = -1 := fun hx hy => by
    obtain ⟨n, hn, rfl⟩ := hx
    rw [show rYear (gT a) (gL a) (gS a) (nI n) y = _ from gIf_in hn (by decide)]
    exact gIf_no1 (by decide) hy
  refine b_X11_year_0 (ψ3 := fun z μ' => z = rYear (gT a) (gL a) (gS a) x y ∧ cJ G a B t d μ' ∧ gPP μ' ∧ hiC μ μ') hG hP (fun h => ⟨(gIf_out (isN_lt h (by decide))).symm, st⟩) (fun _ h => ⟨(gIf_out (isN_big' (n := 60) (by decide) rfl h)).symm, st⟩) (fun h0 h1 h => ⟨(yno (inx h0 h1) (one_lt (by decide) h)).symm, st⟩) (fun h0 h1 h2 h3 => ?_) (fun h0 h1 h2 h3 => ?_) (fun h0 h1 h2 h => ⟨(yno (inx h0 h1) (one_gt (n := 20) (by decide) rfl (i32_nle h))).symm, st⟩)
  · obtain ⟨n, hn, rfl⟩ := inx h0 h1
    obtain ⟨s, hs, hs0, rfl⟩ := one_ok (n := 20) (by decide) rfl h2 h3
    refine (c_X1_growthBySeeds hG hP hf (n := n) (s := s) (by omega) (by omega)).mono (pI_mono ?_)
    intro z μ2 hz2
    obtain ⟨hf2, ho2, hz⟩ := hz2
    obtain ⟨hc2, hi2⟩ := cJ_p hc hf2 ho2
    refine ⟨?_, hc2, ho2.gPP hP, hi2⟩
    rw [hz, show rYear (gT a) (gL a) (gS a) (nI n) (nI s) = _ from gIf_in hn (by decide), gIf_in1 hs (by decide) hs0]
  · rintro z μ2 ⟨e, hc2, hP2, hi2⟩
    exact b_X11_year_32 hG hP2 ⟨e, hc2, hP2, hi2⟩
end ClsC
