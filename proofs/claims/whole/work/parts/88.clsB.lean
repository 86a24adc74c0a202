/-! THE CLASS ANSWERS: road, ghost, cost, way, wayAt, free, saves, tonight, pays, seen -/
theorem sCost_od {T : sT} {Lw : Nat → sLaw} {S : sR} {lots od od' : Int32} {a : Nat} (h : ∀ k, sRt S od k = sRt S od' k) (k : Nat) : sCost T Lw S lots od a k = sCost T Lw S lots od' a k := by
  unfold sCost sOwes sFears vrA; rw [h k]
theorem sFr_od {T : sT} {Lw : Nat → sLaw} {S : sR} {lots od od' : Int32} (h : ∀ k, sRt S od k = sRt S od' k) : ∀ n, sFr T Lw lots od S n = sFr T Lw lots od' S n := by
  intro n
  induction n with
  | zero => rfl
  | succ n ih =>
    have hi := sFree_od (T := T) (Lw := Lw) (lots := lots) (a := n) h
    by_cases hf : sFree T Lw lots od S n
    · rw [show sFr T Lw lots od S (n + 1) = _ from if_pos hf, show sFr T Lw lots od' S (n + 1) = _ from if_pos (hi.mp hf), ih]
    · rw [show sFr T Lw lots od S (n + 1) = _ from if_neg hf, show sFr T Lw lots od' S (n + 1) = _ from if_neg (fun z => hf (hi.mpr z)), ih]
theorem dfs_congr {F R F' R' : Nat → Int32} {c c' : Nat} : ∀ m, (∀ i, i < m → F (c + i) = F' (c' + i) ∧ R (c + i) = R' (c' + i)) → dfs F R c m = dfs F' R' c' m := by
  intro m
  induction m with
  | zero => intro _; rfl
  | succ m ih =>
    intro h
    show dfs F R c m + (F (c + m) - R (c + m)) = dfs F' R' c' m + (F' (c' + m) - R' (c' + m))
    rw [ih (fun i hi => h i (by omega)), (h m (by omega)).1, (h m (by omega)).2]
section ClsB
variable {l : Launch} {G : jG}
theorem cOff.w5 {t : Nat} {PI : Nat → Prop} {μ μ1 μ2 : jM} (h0 : cO5 (nwI t) (lnL t) μ μ1) (h : cOff PI (scL t) μ1 μ2) (hi : ∀ c, PI c → nwI t c) : cO5 (nwI t) (lnL t) μ μ2 := h0.trans (h.o5.mono hi (fun c hc => Or.inr hc))
theorem cJ_n {a : aS} {B t d : Nat} {μ μ' : jM} {S' : sR} {od lots th : Int32} {B' : Nat} (hc : cJ G a B t d μ) (hS : enS G μ' t 53 (gT a) (gL a) S' od lots th B') (ho : cO5 (nwI t) (lnL t) μ μ') : cJ G a B t d μ' ∧ hiC μ μ' :=
  cJ_p hc (fc_n53 hc.1 hS ho) (ho.mono (fun c hc => nw_pn hc) (fun c hc => hc))
theorem c_X11_road (hG : gGG G) {μ : jM} (hP : gPP μ) {a : aS} {B t d : Nat} (hc : cJ G a B t d μ) (x y : Int32) : jC0 l mX11_road 4 G [.ref 0, .int x, .int y] μ (pI fun z μ' => z = rRoad (gT a) (gL a) (gS a) x y ∧ cJ G a B t d μ' ∧ gPP μ' ∧ hiC μ μ') := by
  refine jC0.of' (ls := [.ref 0, .int x, .int y, .null]) rfl rfl rfl (fun _ _ => Nat.le_of_ble_eq_true rfl) ?_
  have hf := hc.1
  have hx0 := hf.1.2.2.1
  have hv := hx0.2.2.2.2.2
  have h12 := hv.1.2.1
  refine b_X11_road_0 hG hP (c_X11_isRoad hG hP hf x) ?_
  rintro z μ1 ⟨rfl, ⟨rfl, hx⟩ | ⟨rfl, hx⟩⟩
  · obtain ⟨k, hk, rfl⟩ := hx
    rw [show rRoad (gT a) (gL a) (gS a) (nI k) y = _ from gIf_in hk (by omega)]
    have ck : (nI k).toNatClampNeg = k := nI_clamp (by omega)
    obtain ⟨g1, g2, g3, g4⟩ := hx0.2.2.1 k hk
    have vk : vp_in (nI k) 12 := vp_in_nI (by omega) (by decide)
    have r53 := hf.2.1
    have a7 : (7 : Int32) + nI k = nI (7 + k) := nI_add 7 k
    have a19 : (19 : Int32) + nI k = nI (7 + (12 + k)) := by rw [show (19 : Int32) = nI 19 from rfl, nI_add]; congr 1; omega
    have a31 : (31 : Int32) + nI k = nI (7 + (24 + k)) := by rw [show (31 : Int32) = nI 31 from rfl, nI_add]; congr 1; omega
    have c7 : ((7 : Int32) + nI k).toNatClampNeg = 7 + k := by rw [a7]; exact nI_clamp (by omega)
    have c19 : ((19 : Int32) + nI k).toNatClampNeg = 7 + (12 + k) := by rw [a19]; exact nI_clamp (by omega)
    have c31 : ((31 : Int32) + nI k).toNatClampNeg = 7 + (24 + k) := by rw [a31]; exact nI_clamp (by omega)
    have st := And.intro hc (And.intro hP (hiC.refl (μ := μ1)))
    refine b_X11_road_5 hG hP hf.1.1 hf.1.2.1 (fun _ _ => vk) (fun _ h0 => ⟨?_, st⟩) (fun _ _ _ => vk) (fun _ h0 h1 => ⟨?_, st⟩) (fun _ _ _ _ => vk) (fun _ h0 h1 h2 => ⟨?_, st⟩) (fun _ h0 h1 h2 h3 => ⟨?_, st⟩) (fun _ h0 h1 h2 h3 h4 => ⟨?_, st⟩) (fun _ _ _ _ _ _ _ => by rw [a7]; exact vp_in_nI (by omega) (by decide)) (fun _ h0 h1 h2 h3 h4 h5 => ⟨?_, st⟩) (fun _ _ _ _ _ _ _ _ => fc_now52 hG hP hf) (fun _ h0 h1 h2 h3 h4 h5 h6 => ?_) (fun _ _ _ _ _ _ _ _ _ => by rw [a19]; exact vp_in_nI (by omega) (by decide)) (fun _ h0 h1 h2 h3 h4 h5 h6 h7 => ⟨?_, st⟩) (fun _ _ _ _ _ _ _ _ _ _ => by rw [a31]; exact vp_in_nI (by omega) (by decide)) (fun _ h0 h1 h2 h3 h4 h5 h6 h7 h8 => ⟨?_, st⟩) (fun _ h0 h1 h2 h3 h4 h5 h6 h7 h8 => ⟨?_, st⟩) (fun h => absurd h (by decide))
    · rw [ck, g1, rdV, if_pos h0]
    · rw [ck, g2, rdV, if_neg h0, if_pos h1]
    · rw [ck, g3, rdV, if_neg h0, if_neg h1, if_pos h2]
    · rw [g4, rdV, if_neg h0, if_neg h1, if_neg h2, if_pos h3]
    · have e4 : μ1.1 53 4 = gS a 64 := by rw [r53]; rfl
      rw [e4, rdV, if_neg h0, if_neg h1, if_neg h2, if_neg h3, if_pos h4]
      have := sGt_bt (S := gS a) (k := k) (by omega)
      by_cases hg : sGt (gS a) k
      · rw [if_pos hg, sh1 (by omega), if_pos (this.mp hg)]
      · rw [if_neg hg, sh1 (by omega), if_neg (fun z => hg (this.mpr z))]
    · rw [c7, r53, cRow_w (by omega), rdV, if_neg h0, if_neg h1, if_neg h2, if_neg h3, if_neg h4, if_pos h5]
    · rintro μ2 ⟨hP2, hS2, ho2⟩
      obtain ⟨hc2, hi2⟩ := cJ_n hc hS2 ho2
      refine b_X11_road_136 hG hP2 ⟨?_, hc2, hP2, hi2⟩
      have hd := hS2.2.1 k (by omega)
      rw [rdV, if_neg h0, if_neg h1, if_neg h2, if_neg h3, if_neg h4, if_neg h5, if_pos h6, sh1 (by omega)]
      by_cases hg : sDn (gT a) (gL a) (gS a) k
      · rw [if_pos hg, if_pos (hd.mpr ⟨hk, hg⟩)]
      · rw [if_neg hg, if_neg (fun z => hg (hd.mp z).2)]
    · rw [c19, r53, cRow_w (by omega), rdV, if_neg h0, if_neg h1, if_neg h2, if_neg h3, if_neg h4, if_neg h5, if_neg h6, if_pos h7]
    · rw [c31, r53, cRow_w (by omega), rdV, if_neg h0, if_neg h1, if_neg h2, if_neg h3, if_neg h4, if_neg h5, if_neg h6, if_neg h7, if_pos h8]
    · rw [rdV, if_neg h0, if_neg h1, if_neg h2, if_neg h3, if_neg h4, if_neg h5, if_neg h6, if_neg h7, if_neg h8]
  · refine b_X11_road_5 (ψ6 := fun _ => True) hG hP hf.1.1 hf.1.2.1 (fun h => absurd rfl h) (fun h => absurd rfl h) (fun h => absurd rfl h) (fun h => absurd rfl h) (fun h => absurd rfl h) (fun h => absurd rfl h) (fun h => absurd rfl h) (fun h => absurd rfl h) (fun h => absurd rfl h) (fun h => absurd rfl h) (fun h => absurd rfl h) (fun h => absurd rfl h) (fun h => absurd rfl h) (fun h => absurd rfl h) (fun h => absurd rfl h) (fun h => absurd rfl h) (fun h => absurd rfl h) (fun _ => ⟨(gIf_out hx).symm, hc, hP, hiC.refl⟩)
theorem c_X11_ghost (hG : gGG G) {μ : jM} (hP : gPP μ) {a : aS} {B t d : Nat} (hc : cJ G a B t d μ) (x y : Int32) : jC0 l mX11_ghost 1 G [.ref 0, .int x, .int y] μ (pI fun z μ' => z = rGhost (gT a) (gS a) x y ∧ cJ G a B t d μ' ∧ gPP μ' ∧ hiC μ μ') := by
  refine jC0.of' (ls := [.ref 0, .int x, .int y, .null]) rfl rfl rfl (fun _ _ => Nat.le_of_ble_eq_true rfl) ?_
  have hf := hc.1
  have hx0 := hf.1.2.2.1
  have hv := hx0.2.2.2.2.2
  have h7g := hv.1.2.2.1
  refine b_X11_ghost_0 hG hP (c_X11_isGhost hG hP hf x) ?_
  rintro z μ1 ⟨rfl, ⟨rfl, hx⟩ | ⟨rfl, hx⟩⟩
  · obtain ⟨k, hk, rfl⟩ := hx
    rw [show rGhost (gT a) (gS a) (nI k) y = _ from gIf_in hk (by omega)]
    have ck : (nI k).toNatClampNeg = k := nI_clamp (by omega)
    obtain ⟨g1, g2, g3, g4, g5⟩ := hx0.2.2.2.1 k hk
    have vk : vp_in (nI k) 7 := vp_in_nI (by omega) (by decide)
    have r53 := hf.2.1
    have ad : ∀ n : Nat, ∀ z : Int32, z = nI (7 + n) → z + nI k = nI (7 + (n + k)) := fun n z hz => by rw [hz, nI_add]; congr 1; omega
    have a4 := ad 36 43 rfl
    have a5 := ad 43 50 rfl
    have a6 := ad 50 57 rfl
    have a7 := ad 57 64 rfl
    have cl : ∀ {z : Int32} {n : Nat}, n ≤ 57 → z = nI (7 + (n + k)) → vp_in z 71 ∧ μ1.1 53 z.toNatClampNeg = gS a (n + k) := fun hn hz => by
      rw [hz, nI_clamp (by omega), r53, cRow_w (by omega)]; exact ⟨vp_in_nI (by omega) (by decide), rfl⟩
    have st := And.intro hc (And.intro hP (hiC.refl (μ := μ1)))
    refine b_X11_ghost_5 hG hP hf.1.1 hf.1.2.1 (fun _ _ => vk) (fun _ h0 => ⟨?_, st⟩) (fun _ _ _ => vk) (fun _ h0 h1 => ⟨?_, st⟩) (fun _ _ _ _ => vk) (fun _ h0 h1 h2 => ⟨?_, st⟩) (fun _ _ _ _ _ => c_X8_isNightOf (S := gS a) hG hP hf.1.1 hx0 hk (by rw [r53]; rfl)) (fun _ h0 h1 h2 h3 => ?_) (fun _ _ _ _ _ _ => (cl (by decide) a4).1) (fun _ h0 h1 h2 h3 h4 => ⟨?_, st⟩) (fun _ _ _ _ _ _ _ => (cl (by decide) a5).1) (fun _ h0 h1 h2 h3 h4 h5 => ⟨?_, st⟩) (fun _ _ _ _ _ _ _ _ => (cl (by decide) a6).1) (fun _ h0 h1 h2 h3 h4 h5 h6 => ⟨?_, st⟩) (fun _ _ _ _ _ _ _ _ _ => (cl (by decide) a7).1) (fun _ h0 h1 h2 h3 h4 h5 h6 h7 => ⟨?_, st⟩) (fun _ h0 h1 h2 h3 h4 h5 h6 h7 => ⟨?_, st⟩) (fun h => absurd h (by decide))
    · rw [ck, g3, ghV, if_pos h0]
    · rw [ck, g4, ghV, if_neg h0, if_pos h1]
    · rw [ck, g5, ghV, if_neg h0, if_neg h1, if_pos h2]
    · rintro z μ2 ⟨rfl, hz⟩
      have e0 : ghV (gT a) (gS a) k y = if gS a 67 - gS a 67 / nI (gT a 9 k) * nI (gT a 9 k) = 0 then 1 else 0 := by rw [ghV, if_neg h0, if_neg h1, if_neg h2, if_pos h3]
      rw [e0]
      rcases hz with ⟨rfl, hh⟩ | ⟨rfl, hh⟩
      · exact b_X11_ghost_99 hG hP (fun h => absurd h (by decide)) (fun _ => ⟨(if_pos hh).symm, st⟩)
      · exact b_X11_ghost_99 hG hP (fun _ => ⟨(if_neg hh).symm, st⟩) (fun h => absurd rfl h)
    · rw [(cl (by decide) a4).2, ghV, if_neg h0, if_neg h1, if_neg h2, if_neg h3, if_pos h4]
    · rw [(cl (by decide) a5).2, ghV, if_neg h0, if_neg h1, if_neg h2, if_neg h3, if_neg h4, if_pos h5]
    · rw [(cl (by decide) a6).2, ghV, if_neg h0, if_neg h1, if_neg h2, if_neg h3, if_neg h4, if_neg h5, if_pos h6]
    · rw [(cl (by decide) a7).2, ghV, if_neg h0, if_neg h1, if_neg h2, if_neg h3, if_neg h4, if_neg h5, if_neg h6, if_pos h7]
    · rw [ghV, if_neg h0, if_neg h1, if_neg h2, if_neg h3, if_neg h4, if_neg h5, if_neg h6, if_neg h7]
  · exact b_X11_ghost_5 (ψ3 := fun _ _ => True) hG hP hf.1.1 hf.1.2.1 (fun h => absurd rfl h) (fun h => absurd rfl h) (fun h => absurd rfl h) (fun h => absurd rfl h) (fun h => absurd rfl h) (fun h => absurd rfl h) (fun h => absurd rfl h) (fun h => absurd rfl h) (fun h => absurd rfl h) (fun h => absurd rfl h) (fun h => absurd rfl h) (fun h => absurd rfl h) (fun h => absurd rfl h) (fun h => absurd rfl h) (fun h => absurd rfl h) (fun h => absurd rfl h) (fun h => absurd rfl h) (fun _ => ⟨(gIf_out hx).symm, hc, hP, hiC.refl⟩)
theorem c_X11_cost (hG : gGG G) {μ : jM} (hP : gPP μ) {a : aS} {B t d : Nat} (hc : cJ G a B t d μ) (x y : Int32) : jC0 l mX11_cost 4 G [.ref 0, .int x, .int y] μ (pI fun z μ' => z = rCost (gT a) (gL a) (gS a) x y ∧ cJ G a B t d μ' ∧ gPP μ' ∧ hiC μ μ') := by
  refine jC0.of' (ls := [.ref 0, .int x, .int y]) rfl rfl rfl (fun _ _ => Nat.le_of_ble_eq_true rfl) ?_
  have hf := hc.1
  have hv := hf.1.2.2.1.2.2.2.2.2
  have h12 := hv.1.2.1
  have h7 := hv.1.2.2.1
  obtain ⟨r, hr9, hr⟩ := hf.2.2.1.2.2
  have st := And.intro hc (And.intro hP (hiC.refl (μ := μ)))
  refine b_X11_cost_0 hG hP (c_X11_isGhost hG hP hf x) ?_
  rintro z μ1 ⟨rfl, ⟨rfl, hx⟩ | ⟨rfl, hx⟩⟩
  · obtain ⟨g, hg, rfl⟩ := hx
    rw [show rCost (gT a) (gL a) (gS a) (nI g) y = _ from gIf_in hg (by omega)]
    refine b_X11_cost_5 hG hP (fun h => absurd h (by decide)) (fun _ => c_X11_isRoad hG hP hf y) (fun _ => ?_)
    rintro z μ2 ⟨rfl, ⟨rfl, hy⟩ | ⟨rfl, hy⟩⟩
    · obtain ⟨k, hk, rfl⟩ := hy
      rw [gIf_in hk (by omega)]
      refine b_X11_cost_13 hG hP (fun _ => fc_now52 hG hP hf) (fun _ => ?_) (fun h => absurd h (by decide))
      rintro μ3 ⟨hP3, hS3, ho3⟩
      refine b_X11_cost_29 hG hP3 (c_X10_priceOf hG hP3 hS3.1 hg hk) ?_
      rintro z μ4 ⟨rfl, ho4, hk4, hw4⟩
      have ho4' := cOff.w5 ho3 ho4 (fun c hc => by unfold nwI; rcases hc with z | z; exact Or.inr (Or.inr (Or.inr (by omega))); exact Or.inr (Or.inr (Or.inl z)))
      have hP4 := ho4.gPP hP3
      -- the row of what is owed is now known for this ROAD alone: text, ways' prices stand
      have hpe : peI G μ4 t (gT a) (gL a) := by
        have ht2 := hf.1.2.2.1.1
        obtain ⟨p1, p2, p3, p4, p5, p6⟩ := enS_pe hS3
        refine ⟨ho4.tO p1, by rw [ho4.1]; exact p2, txC_off ho4 p3 (fun c h1 h2 h3 => by unfold scI at h3; omega) (fun c h1 h2 h3 => by unfold scL at h3; omega), hk4, ?_, fun b hb => ?_⟩
        · unfold brP at p5 ⊢
          rw [ho4.2.1 14 (by unfold scI; omega), ho4.2.2 12 (by unfold scL; omega)]; exact p5
        · have e : ∀ i, i ≤ 4 → i ≠ 2 → μ4.1 (17 + 5 * b + i) = μ3.1 (17 + 5 * b + i) := fun i hi h2 => ho4.2.1 _ (by unfold scI; omega)
          have e0 := e 0 (by decide) (by decide)
          rw [Nat.add_zero] at e0
          exact wyK_mem (e 1 (by decide) (by decide)) (e 3 (by decide) (by decide)) (by rw [e0]) (by rw [e0]) (by rw [e0]) (by rw [e0]) (p6 b hb)
      have hf4 : fcI G μ4 t (gT a) (gL a) (gS a) B := by
        have ht2 := hf.1.2.2.1.1
        refine fc_now hf hpe (ho4'.mono (fun c hc => nw_pn hc) (fun c hc => hc)) (fun i hi => ?_)
        rw [ho4'.2.1 59 (by unfold nwI scI; omega)]; exact hf.2.2.2 i hi
      obtain ⟨hc4, hi4⟩ := cJ_p hc hf4 (ho4'.mono (fun c hc => nw_pn hc) (fun c hc => hc))
      exact b_X11_cost_38 hG hP4 ⟨sCost_od (od_plain hr9 hr (gS a) rfl) k, hc4, hP4, hi4⟩
    · exact b_X11_cost_13 (ψ0 := fun _ => True) hG hP (fun h => absurd rfl h) (fun h => absurd rfl h) (fun _ => ⟨(gIf_out hy).symm, st⟩)
  · exact b_X11_cost_5 (ψ1 := fun _ _ => True) hG hP (fun _ => ⟨(gIf_out hx).symm, st⟩) (fun h => absurd rfl h) (fun h => absurd rfl h)
theorem c_X11_way (hG : gGG G) {μ : jM} (hP : gPP μ) {a : aS} {B t d : Nat} (hc : cJ G a B t d μ) (x y : Int32) : jC0 l mX11_way 4 G [.ref 0, .int x, .int y] μ (pI fun z μ' => z = rWay (gT a) (gL a) (gS a) x y ∧ cJ G a B t d μ' ∧ gPP μ' ∧ hiC μ μ') := by
  refine jC0.of' (ls := [.ref 0, .int x, .int y, .null]) rfl rfl rfl (fun _ _ => Nat.le_of_ble_eq_true rfl) ?_
  have hf := hc.1
  have hv := hf.1.2.2.1.2.2.2.2.2
  have h12 := hv.1.2.1
  have h7 := hv.1.2.2.1
  obtain ⟨r, hr9, hr⟩ := hf.2.2.1.2.2
  have hod := od_plain hr9 hr (gS a) rfl
  have st := And.intro hc (And.intro hP (hiC.refl (μ := μ)))
  refine b_X11_way_0 hG hP (c_X11_isGhost hG hP hf x) ?_
  rintro z μ1 ⟨rfl, ⟨rfl, hx⟩ | ⟨rfl, hx⟩⟩
  · obtain ⟨g, hg, rfl⟩ := hx
    rw [show rWay (gT a) (gL a) (gS a) (nI g) y = _ from gIf_in hg (by omega)]
    refine b_X11_way_5 hG hP (fun h => absurd h (by decide)) (fun _ h => ⟨(gIf_out (isN_lt h (by decide))).symm, st⟩) (fun _ _ _ => fc_now52 hG hP hf) (fun _ h0 h1 => ?_) (fun _ h0 h1 => ⟨(gIf_out (isN_gt (n := 3) (by decide) (by rw [i32_le] at h1; rw [i32_lt]; exact Int.not_le.mp h1))).symm, st⟩)
    obtain ⟨w, hw, rfl⟩ := (isN_in (x := y) (a := 0) (b := 3) (n := 3) (by decide) rfl rfl).mp ⟨by rw [i32_lt] at h0; rw [i32_le]; omega, h1⟩
    rw [gIf_in hw (by decide)]
    rintro μ3 ⟨hP3, hS3, ho3⟩
    refine b_X11_way_30 hG hP3 (c_X10_findWay hG hP3 hS3 hg) ?_
    rintro z μ4 ⟨rfl, ho4, hS4, hdb, hwy⟩
    have ho4' := cOff.w5 ho3 ho4 (fun c hc => fn_nw (by omega) hc)
    have hP4 := ho4.gPP hP3
    obtain ⟨hc4, hi4⟩ := cJ_n hc hS4 ho4'
    have st4 := And.intro hc4 (And.intro hP4 hi4)
    rw [sDs_od hod] at *
    have hx4 := hS4.1.1.2.2.2.2.2.1
    have hy4 := tO_way hG hP4 (a := g) (by omega)
    have cg : (nI g).toNatClampNeg = g := nI_clamp (by omega)
    by_cases hI : sDs (gT a) (gL a) (nI (gT a 0 7)) (-1) (gS a) g (gT a 5 g) < INF
    · rw [if_pos hI, if_pos hI]
      have hI' : sDs (gT a) (gL a) (nI (gT a 0 7)) (gS a 65) (gS a) g (gT a 5 g) < INF := by rw [sDs_od hod]; exact hI
      obtain ⟨w6, w5, w3, w7⟩ := wyC_W hwy hI'
      rw [sDs_od hod] at w6
      have hWi := sWl_in hv hI'
      rw [sWl_od hod] at w5 w3 hWi
      have hWup := sWl_up hv hI'
      rw [sWl_od hod] at hWup
      have hw4 := hS4.2.2 g hg
      have how : ∀ k ∈ sWl (gT a) (gL a) (nI (gT a 0 7)) (-1) (gS a) g, μ4.1 (17 + 5 * g + 2) k = sOw (gT a) (gL a) (gS a) (nI (gT a 0 7)) (-1) g k := fun k hk => by
        have := (hw4.2 k (hWi.2 k hk) (by rw [hdb, b_0])).2 (hWup k hk)
        rw [this, sOw_od hod]
      have w4 : (nI w = 0 ↔ w = 0) ∧ (nI w = 1 ↔ w = 1) ∧ (nI w = 2 ↔ w = 2) := ⟨nI_eq (b := 0) (by omega) (by decide), nI_eq (b := 1) (by omega) (by decide), nI_eq (b := 2) (by omega) (by decide)⟩
      have e7 : μ4.1 (t + 7) (nI g).toNatClampNeg = nI (gT a 8 g) := by rw [cg]; exact (hx4.2.2.2.1 g hg).2.2.2.1
      refine b_X11_way_38 (y := 17 + 5 * g) hG hP4 hS4.1.1.1 hy4 hS4.1.1.2.1 (fun _ => vp_in_nI (by omega) (by decide)) (fun _ => by rw [cg]; exact way_ref hP4 (by omega)) (fun _ h0 => ⟨?_, st4⟩) (fun _ _ _ => c_X10_hoursOf hG hP4 hS4.1.1.1 hy4 hS4.1.1.2.1 hx4 w5 hWi.1 w3 hWi.2) (fun _ h0 h1 => ?_) (fun _ h0 h1 h2 => ⟨?_, st4⟩) (fun _ _ _ _ => c_X10_paidOn hG hP4 hy4 h12 w5 hWi.1 w3 hWi.2 how _) (fun _ h0 h1 h2 => ?_) (fun h => absurd h (by decide))
      · rw [w6, wyV, if_pos (w4.1.mp h0)]
      · rintro z μ5 ⟨rfl, rfl⟩
        refine b_X11_way_93 hG hP4 ⟨?_, st4⟩
        rw [wyV, if_neg (fun z => h0 (w4.1.mpr z)), if_pos (w4.2.1.mp h1)]
      · rw [w5, wyV, if_neg (fun z => h0 (w4.1.mpr z)), if_neg (fun z => h1 (w4.2.1.mpr z)), if_pos (w4.2.2.mp h2)]
      · rw [e7]
        rintro z μ5 ⟨rfl, rfl⟩
        refine b_X11_way_119 hG hP4 ⟨?_, st4⟩
        rw [wyV, if_neg (fun z => h0 (w4.1.mpr z)), if_neg (fun z => h1 (w4.2.1.mpr z)), if_neg (fun z => h2 (w4.2.2.mpr z))]
        generalize sumW (sOw (gT a) (gL a) (gS a) (nI (gT a 0 7)) (-1) g) (sWl (gT a) (gL a) (nI (gT a 0 7)) (-1) (gS a) g) 0 = s
        by_cases hlt : nI (gT a 8 g) < s
        · rw [if_pos hlt, if_pos (by rw [i32_lt] at hlt; rw [i32_le]; omega)]
        · rw [if_neg hlt]
          by_cases hle : nI (gT a 8 g) ≤ s
          · rw [if_pos hle]; apply i32_ext; rw [i32_lt] at hlt; rw [i32_le] at hle; omega
          · rw [if_neg hle]
    · rw [if_neg hI, if_neg hI]
      exact b_X11_way_38 (y := 17 + 5 * g) (ψ1 := fun _ _ => True) (ψ3 := fun _ _ => True) hG hP4 hS4.1.1.1 hy4 hS4.1.1.2.1 (fun h => absurd rfl h) (fun h => absurd rfl h) (fun h => absurd rfl h) (fun h => absurd rfl h) (fun h => absurd rfl h) (fun h => absurd rfl h) (fun h => absurd rfl h) (fun h => absurd rfl h) (fun _ => ⟨rfl, st4⟩)
  · exact b_X11_way_5 (ψ2 := fun _ => True) hG hP (fun _ => ⟨(gIf_out hx).symm, st⟩) (fun h => absurd rfl h) (fun h => absurd rfl h) (fun h => absurd rfl h) (fun h => absurd rfl h)
end ClsB
