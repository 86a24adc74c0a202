/-! THE CLASS: what the dreams hang on is learnt; new cells -/
def gEx (G G' : jG) : Prop := ∀ (i : Nat) (sh : Nat × Nat), G[i]? = some sh → G'[i]? = some sh
theorem gEx.refl {G : jG} : gEx G G := fun _ _ h => h
theorem gEx_app {G L : jG} : gEx G (G ++ L) := fun i sh h => by rw [List.getElem?_append_left (List.getElem?_eq_some_iff.mp h).1]; exact h
theorem tO_ext {gl : jG} {pl : Nat → Nat → Option Nat} {G G' : jG} {μ : jM} {t : Nat} (h : gEx G G') (ht : tO gl pl G μ t) : tO gl pl G' μ t := ⟨fun x sh hx => h _ _ (ht.1 x sh hx), ht.2⟩
theorem peI_ext {G G' : jG} {μ : jM} {t : Nat} {T : sT} {Lw : Nat → sLaw} (h : gEx G G') (hp : peI G μ t T Lw) : peI G' μ t T Lw := ⟨tO_ext h hp.1, hp.2⟩
theorem cJ_ext {G G' : jG} {a : aS} {B t d : Nat} {μ : jM} (h : gEx G G') (hc : cJ G a B t d μ) : cJ G' a B t d μ := by
  obtain ⟨h1, ⟨hd, hdt, hd7, hdo⟩, h3, h4, h5, h6, h7, h8, h9, h10⟩ := hc
  refine ⟨⟨peI_ext h h1.1, h1.2⟩, ⟨hd, hdt, hd7, tO_ext h hdo⟩, h3, h4, h5, h6, h7, ?_, h9, h10⟩
  rcases h8 with h' | ⟨so, wr, m, e1, e2, e3, e4, e5⟩
  · exact Or.inl h'
  · exact Or.inr ⟨so, wr, m, e1, e2, h _ _ e3, h _ _ e4, e5⟩
theorem gGG_ext {G G' : jG} (h : gEx G G') (hG : gGG G) : gGG G' := fun a sh hx => h _ _ (hG a sh hx)
/-- the reference's cells alone -/
def hi1 (μ μ' : jM) : Prop := (∀ c, 112 ≤ c → c < 167 → μ'.1 c = μ.1 c ∧ μ'.2.1 c = μ.2.1 c ∧ μ'.2.2 c = μ.2.2 c) ∧ hiK μ μ'
theorem hiC.h1 {μ μ' : jM} (h : hiC μ μ') : hi1 μ μ' := ⟨h.1, h.2.2⟩
theorem hi1.trans {μ μ1 μ2 : jM} (h1 : hi1 μ μ1) (h2 : hi1 μ1 μ2) : hi1 μ μ2 := ⟨fun c a b => ⟨(h2.1 c a b).1.trans (h1.1 c a b).1, (h2.1 c a b).2.1.trans (h1.1 c a b).2.1, (h2.1 c a b).2.2.trans (h1.1 c a b).2.2⟩, h1.2.trans h2.2⟩
theorem jCl_hi {G : jG} {μ μ' : jM} (hg : 112 ≤ G.length) (hcl : jCl G μ) (h : hiC μ μ') : jCl G μ' := fun a f x ha hx => by
  rcases h.2.1 a f x hx with g | g
  · exact hcl a f x ha g
  · omega
def tX : jEX := fun _ _ _ _ => True
theorem tX_ok : jXs tX := fun _ _ _ _ _ _ _ _ _ _ _ _ => trivial
/-- the two rows for what is learnt are made -/
def nwM (μ : jM) (g : Nat) : jM := wP (z0 (wP (z0 μ g) 63 7 (some g)) (g + 1)) 63 8 (some (g + 1))
theorem nw_1 {μ : jM} {g c : Nat} (h : c < g) : (nwM μ g).1 c = μ.1 c := by
  show (z0 (wP (z0 μ g) 63 7 (some g)) (g + 1)).1 c = _
  simp [z0, wP, show c ≠ g by omega, show c ≠ g + 1 by omega]
theorem nw_2 {μ : jM} {g c : Nat} (h : c < g) : (nwM μ g).2.1 c = μ.2.1 c := by
  show (z0 (wP (z0 μ g) 63 7 (some g)) (g + 1)).2.1 c = _
  simp [z0, wP, show c ≠ g by omega, show c ≠ g + 1 by omega]
theorem nw_3 {μ : jM} {g c f : Nat} (h : c < g) (h63 : 63 < g) (hn : ¬ (c = 63 ∧ (f = 7 ∨ f = 8))) : (nwM μ g).2.2 c f = μ.2.2 c f := by
  unfold nwM
  by_cases e : c = 63
  · subst e
    rw [wP_o (by omega)]
    show (z0 (wP (z0 μ g) 63 7 (some g)) (g + 1)).2.2 63 f = _
    simp only [z0, show (63 : Nat) ≠ g + 1 by omega, if_false]
    rw [wP_o (by omega)]
    simp [show (63 : Nat) ≠ g by omega]
  · rw [wP_n e]
    show (z0 (wP (z0 μ g) 63 7 (some g)) (g + 1)).2.2 c f = _
    simp only [z0, show c ≠ g + 1 by omega, if_false]
    rw [wP_n e]
    simp [show c ≠ g by omega]
theorem nw_7 {μ : jM} {g : Nat} (h63 : 63 < g) : (nwM μ g).2.2 63 7 = some g := by
  unfold nwM
  rw [wP_o (by decide)]
  show (z0 (wP (z0 μ g) 63 7 (some g)) (g + 1)).2.2 63 7 = _
  simp only [z0, show (63 : Nat) ≠ g + 1 by omega, if_false]
  rw [wP_at]
theorem nw_8 {μ : jM} {g : Nat} : (nwM μ g).2.2 63 8 = some (g + 1) := wP_at
theorem nw_new {μ : jM} {g c f : Nat} (h63 : 63 < g) (h : c = g ∨ c = g + 1) : (nwM μ g).2.2 c f = none := by
  unfold nwM
  rw [wP_n (by omega)]
  rcases h with rfl | rfl
  · show (z0 (wP (z0 μ c) 63 7 (some c)) (c + 1)).2.2 c f = _
    simp only [z0, show c ≠ c + 1 by omega, if_false]
    rw [wP_n (by omega)]
    simp
  · show (z0 (wP (z0 μ g) 63 7 (some g)) (g + 1)).2.2 (g + 1) f = _
    simp [z0]
theorem cJ_new {G : jG} {a : aS} {B t d : Nat} {μ : jM} (hg : 167 ≤ G.length) (hc : cJ G a B t d μ) (h6 : μ.1 63 6 = 0) : cJ (G ++ [(0, 3968)] ++ [(0, 1536)]) a B t d (nwM μ G.length) := by
  obtain ⟨h1, ⟨hd, hdt, hd7, hdo⟩, h3, h4, h5, h6', h7, -, h9, h10⟩ := hc
  have ht2 := h1.1.2.2.1.1
  have ec : ∀ c, c < 167 → (nwM μ G.length).1 c = μ.1 c := fun c h => nw_1 (by omega)
  have el : ∀ c, c < 167 → (nwM μ G.length).2.1 c = μ.2.1 c := fun c h => nw_2 (by omega)
  have er : ∀ c f, c < 167 → c ≠ 63 → (nwM μ G.length).2.2 c f = μ.2.2 c f := fun c f h h' => nw_3 (by omega) (by omega) (by omega)
  have hex : gEx G (G ++ [(0, 3968)] ++ [(0, 1536)]) := fun i sh h => gEx_app _ _ (gEx_app _ _ h)
  have hto : ∀ u, (u = 70 ∨ u = 91) → tO gTold pTold G μ u → tO gTold pTold (G ++ [(0, 3968)] ++ [(0, 1536)]) (nwM μ G.length) u := fun u hu ho => ⟨fun x sh hx => hex _ _ (ho.1 x sh hx), fun b f x hx => by
    have hb : b < 21 := by
      unfold pTold at hx
      split at hx
      · omega
      all_goals first | omega | (split at hx <;> first | omega | cases hx) | cases hx
    rw [er (u + b) f (by omega) (by omega)]; exact ho.2 b f x hx⟩
  have hpe : peI (G ++ [(0, 3968)] ++ [(0, 1536)]) (nwM μ G.length) t (gT a) (gL a) := by
    obtain ⟨p1, p2, p3, p4, p5, p6⟩ := h1.1
    have hco : cOff (fun c => 167 ≤ c) (fun c => 167 ≤ c) μ ((nwM μ G.length).1, (nwM μ G.length).2.1, μ.2.2) := ⟨rfl, fun c hc => ec c (by omega), fun c hc => el c (by omega)⟩
    refine ⟨hto t ht2 p1, by rw [er 12 0 (by decide) (by decide)]; exact p2, txC_off hco p3 (fun c q1 q2 q3 => by omega) (fun c q1 q2 q3 => by omega), kcI_off hco p4 (fun c q3 => by omega) (fun c q3 => by omega), ?_, fun b hb => ?_⟩
    · unfold brP at p5 ⊢; rw [ec 14 (by decide), el 12 (by decide)]; exact p5
    · have h7b := p3.2.2.2.2.2.1.2.2.1
      exact wyK_mem (ec _ (by omega)) (ec _ (by omega)) (by rw [ec _ (by omega)]) (by rw [ec _ (by omega)]) (by rw [ec _ (by omega)]) (by rw [ec _ (by omega)]) (p6 b hb)
  refine ⟨⟨hpe, by rw [ec 53 (by decide)]; exact h1.2.1, h1.2.2.1, by rw [ec 59 (by decide)]; exact h1.2.2.2⟩, ⟨hd, hdt, by rw [er 0 7 (by decide) (by decide)]; exact hd7, hto d hd hdo⟩, ?_, by rw [ec 0 (by decide)]; exact h4, ?_, ?_, ?_, ?_, by rw [ec 65 (by decide)]; exact h9, ?_⟩
  · unfold tapeC at h3 ⊢; rw [ec 1 (by decide), ec 2 (by decide)]; exact h3
  · unfold histC at h5 ⊢; rw [ec 54 (by decide), ec 55 (by decide)]; exact h5
  · unfold slotC at h6' ⊢; rw [ec 54 (by decide), ec 56 (by decide)]; exact h6'
  · unfold dreamC at h7 ⊢; rw [ec 63 (by decide), ec 66 (by decide), ec 67 (by decide), ec 68 (by decide)]; exact h7
  · refine Or.inr ⟨G.length, G.length + 1, 0, nw_7 (by omega), nw_8, ?_, ?_, hg, by omega, by omega, by decide, by rw [ec 63 (by decide)]; exact h6, fun n hn => by omega, fun h => by omega⟩
    · rw [List.getElem?_append_left (by simp), List.getElem?_append_right (Nat.le_refl _)]; simp
    · rw [List.getElem?_append_right (by simp)]; simp
  · unfold anI at h10 ⊢; rw [ec 57 (by decide), ec 60 (by decide), ec 61 (by decide)]; exact h10
theorem gP_lt {a f x : Nat} (h : gP a f = some x) : a < 167 := by
  unfold gP at h
  split at h <;> first | omega | cases h
theorem jSc_0 {g : Nat} : jSc g [] := fun v hv => by cases hv
theorem jSc_r {g x : Nat} {vs : List Value} (hx : x < g) (h : jSc g vs) : jSc g (.ref x :: vs) := fun v hv y e => by
  rcases List.mem_cons.mp hv with rfl | hv
  · cases e; exact hx
  · exact h v hv y e
theorem jSc_i {g : Nat} {i : Int32} {vs : List Value} (h : jSc g vs) : jSc g (.int i :: vs) := fun v hv y e => by
  rcases List.mem_cons.mp hv with rfl | hv
  · cases e
  · exact h v hv y e
theorem jSc_n {g : Nat} {vs : List Value} (h : jSc g vs) : jSc g (.null :: vs) := fun v hv y e => by
  rcases List.mem_cons.mp hv with rfl | hv
  · cases e
  · exact h v hv y e
section LearnF
variable {l : Launch} {G : jG}
/-- so much is learnt -/
def lfP (a : aS) (B t d c q : Nat) (μ : jM) (G0 : jG) (μ' : jM) (G' : jG) : Prop := gGG G' ∧ (G0.length ≤ G'.length ∧ gEx G0 G') ∧ cJ G' a B t d μ' ∧ gPP μ' ∧ hi1 μ μ' ∧ jCl G' μ' ∧ ∃ so M, 167 ≤ so ∧ q ≤ M ∧ (∀ i, i < c → ∀ d, (gD a)[i]? = some d → d.2.1 < M) ∧ knC G' μ' (gT a) (gL a) so M
set_option maxHeartbeats 1000000 in
theorem learn_main (hG : gGG G) {μ0 μ : jM} (hP : gPP μ) {a : aS} {B t d c q M k n : Nat} {G0 : jG} {x1 x2 : Int32} (hc : cJ G a B t d μ) (hg : 167 ≤ G.length) (hg0 : G0.length ≤ G.length ∧ gEx G0 G) (hcl : jCl G μ) (h0 : hi1 μ0 μ) (hM31 : M ≤ 31) (hqM : q ≤ M) (hlast : ∀ i, i < c → ∀ d, (gD a)[i]? = some d → d.2.1 < M) (hlr : ¬ (μ.2.2 63 7 = none)) :
    J l mX0_learnFor (jZA 6 2 5504 G0.length (fun r μ' G' => r = none ∧ lfP a B t d c q μ0 G0 μ' G') tX) G k n 54 [.ref 63, .int x1, .int x2, .int (nI M - 1), .null, .null] [] μ := by
  obtain ⟨X, hX⟩ : ∃ X : Option Value → jM → jG → Prop, X = fun r μ' G' => r = none ∧ lfP a B t d c q μ0 G0 μ' G' := ⟨_, rfl⟩
  rw [← hX]
  have hf := hc.1
  have hx := hf.1.2.2.1
  have hv := hx.2.2.2.2.2
  have h7 := hv.1.2.2.1
  have ht2 := hx.1
  have hpw := pow_le (gT a 0 2) (by omega)
  have h128 : 2 ^ gT a 0 2 ≤ 2 ^ 7 := Nat.pow_le_pow_right (by decide) h7
  rcases hc.2.2.2.2.2.2.2.1 with ⟨hn, -⟩ | ⟨so, wr, m, e1, e2, e3, e4, e5, e6, e7, e8, e9, e10, e11⟩
  · exact absurd hn hlr
  refine j_iload_n dX0_learnFor_54 rfl rfl ?_
  refine j_aload_n dX0_learnFor_55 rfl rfl ?_
  refine j_getI (ci := 0) (N := 10) (f := 6) (T := TX0) dX0_learnFor_56 rfl (hG 63 (5, 10) rfl) rfl (by decide) fl_X0_39 rfl ?_
  have hlm : (nI M - 1 < μ.1 63 6) ↔ M ≤ m := by rw [e9]; exact lI_lt (by omega) (by omega)
  refine j_icmp_lt 106 dX0_learnFor_59 rfl (by decide) (fun hlt => ?_) (fun hlt => ?_)
  · refine j_vretA dX0_learnFor_106 rfl ?_
    rw [hX]
    exact ⟨rfl, hG, hg0, hc, hP, h0, hcl, so, M, e5, hqM, hlast, e1, e3, hM31, fun n hn s hs k hk => e10 n (by have := hlm.mp hlt; omega) s hs k hk⟩
  · have hmM : m < M := by have : ¬ M ≤ m := fun z => hlt (hlm.mpr z); omega
    refine j_iconst 1 dX0_learnFor_62 rfl (by decide) ?_
    refine j_aload_n dX0_learnFor_63 rfl rfl ?_
    refine j_getR (ci := 0) (N := 10) (f := 1) (T := TX0) 12 dX0_learnFor_64 rfl (hG 63 (5, 10) rfl) rfl (by decide) fl_X0_31 rfl (hP 63 1 12 rfl) ?_
    refine j_getR (ci := 10) (N := 11) (f := 0) (T := TX10) t dX0_learnFor_67 rfl (hG 12 (15, 11) rfl) rfl (by decide) fl_X0_42 rfl hf.1.2.1 ?_
    refine j_getI (ci := 8) (N := 20) (f := 2) (T := TX8) dX0_learnFor_70 rfl (hf.1.1.1 0 (13, 20) rfl) rfl (by decide) fl_X0_48 rfl ?_
    refine j_ishl dX0_learnFor_73 rfl ?_
    rw [hx.2.1.2.2.1, pow_sh _ (by omega)]
    refine j_istore (ls' := [.ref 63, .int x1, .int x2, .int (nI M - 1), .int (nI (2 ^ gT a 0 2)), .null]) dX0_learnFor_74 rfl (Nat.le_of_ble_eq_true rfl) rfl ?_
    refine j_iconst 0 dX0_learnFor_76 rfl (by decide) ?_
    refine j_istore (ls' := [.ref 63, .int x1, .int x2, .int (nI M - 1), .int (nI (2 ^ gT a 0 2)), .int (nI 0)]) dX0_learnFor_77 rfl (Nat.le_of_ble_eq_true rfl) rfl ?_
    have loop : ∀ s, s ≤ 2 ^ gT a 0 2 → ∀ μ1, gPP μ1 → peI G μ1 t (gT a) (gL a) → (∀ i, 71 ≤ i → μ1.1 65 i = 0) → cO5 (lrI t so wr) (lnL t) μ μ1 → (∀ n, n < m → ∀ s', s' < 2 ^ gT a 0 2 → ∀ k, k < gT a 0 1 → (bt (μ1.1 so (128 * n + s')) k = true ↔ seB (gT a) (gL a) s' n k = true)) → (∀ n, m ≤ n → n < M → ∀ s', s' < s → ∀ k, k < gT a 0 1 → (bt (μ1.1 so (128 * n + s')) k = true ↔ seB (gT a) (gL a) s' n k = true)) → (∀ s', s' < s → ∀ k, k < 12 → μ1.1 wr (12 * s' + k) = sdW (gT a) (gL a) s' M k) → (0 < m → ∀ s', s ≤ s' → s' < 2 ^ gT a 0 2 → ∀ k, k < 12 → μ1.1 wr (12 * s' + k) = sdW (gT a) (gL a) s' m k) → J l mX0_learnFor (jZA 6 2 5504 G0.length X tX) G k n 79 [.ref 63, .int x1, .int x2, .int (nI M - 1), .int (nI (2 ^ gT a 0 2)), .int (nI s)] [] μ1 := by
      refine up_loop (2 ^ gT a 0 2) ?_ (fun s hs ih => ?_)
      · intro μ1 hP1 hp1 hz1 ho1 b1 b2 w1 w2
        have hle : nI (2 ^ gT a 0 2) ≤ nI (2 ^ gT a 0 2) := nI_le (Nat.le_refl _) (by omega)
        refine j_iload dX0_learnFor_79 rfl rfl ?_
        refine j_iload dX0_learnFor_81 rfl rfl ?_
        refine j_icmp_ge 99 dX0_learnFor_83 rfl (by decide) (fun _ => ?_) (fun h => absurd hle h)
        refine j_aload_n dX0_learnFor_99 rfl rfl ?_
        refine j_iload_n dX0_learnFor_100 rfl rfl ?_
        refine j_iconst 1 dX0_learnFor_101 rfl (by decide) ?_
        refine j_iadd dX0_learnFor_102 rfl ?_
        refine j_putI (ci := 0) (N := 10) (f := 6) (T := TX0) dX0_learnFor_103 rfl (hG 63 (5, 10) rfl) rfl (by decide) fl_X0_39 rfl rfl ?_
        have eM : nI M - 1 + 1 = nI M := by rw [Int32.sub_eq_add_neg, Int32.add_assoc, Int32.add_left_neg, Int32.add_zero]
        rw [eM]
        refine j_vretA dX0_learnFor_106 rfl ?_
        rw [hX]
        have ow : cOff (fun c => c = 63) (fun _ => False) μ1 (wI μ1 63 6 (nI M)) := cOff_wI rfl
        have hoo : cO5 (fun c => lrI t so wr c ∨ c = 63) (lnL t) μ (wI μ1 63 6 (nI M)) := (ho1.mono (fun c hc => Or.inl hc) (fun c hc => hc)).trans (ow.o5.mono (fun c hc => Or.inr hc) (fun c hc => hc.elim))
        have ec : ∀ c, c < 12 ∨ (52 ≤ c ∧ c < 63) ∨ (66 ≤ c ∧ c < 70) ∨ (112 ≤ c ∧ c < 167) → (wI μ1 63 6 (nI M)).1 c = μ.1 c := fun c h => hoo.2.1 c (by unfold lrI pnI scI; omega)
        have bits : ∀ n, n < M → ∀ s, s < 2 ^ gT a 0 2 → ∀ k, k < gT a 0 1 → (bt ((wI μ1 63 6 (nI M)).1 so (128 * n + s)) k = true ↔ seB (gT a) (gL a) s n k = true) := fun n hn s' hs' k hk => by
          rw [wI_ne (by omega)]
          by_cases h : n < m
          · exact b1 n h s' hs' k hk
          · exact b2 n (by omega) hn s' hs' k hk
        have e7' : (wI μ1 63 6 (nI M)).2.2 63 7 = some so := by rw [hoo.1 63 7 (by decide)]; exact e1
        obtain ⟨g1, ⟨gd, gdt, gd7, gdo⟩, g3, g4, g5, g6, g7, g8, g9, g10⟩ := hc
        refine ⟨rfl, hG, hg0, ⟨⟨peI_lo ow.o5 (fun c hc => by omega) (fun c hc => hc.elim) hp1, by rw [ec 53 (by omega)]; exact g1.2.1, g1.2.2.1, by rw [ec 59 (by omega)]; exact g1.2.2.2⟩, ⟨gd, gdt, by rw [hoo.1 0 7 (by decide)]; exact gd7, hoo.tO (by omega) gdo⟩, ?_, by rw [ec 0 (by omega)]; exact g4, ?_, ?_, ?_, ?_, by rw [wI_ne (by decide)]; exact hz1, ?_⟩, hP1, h0.trans ⟨fun c q1 q2 => ⟨ec c (by omega), hoo.2.2.1 c (fun z => by have := lnL_in z; omega), by funext f; exact hoo.1 c f (by omega)⟩, hoo.2.2.1 8 (fun z => by have := lnL_in z; have := g1.1.2.2.1.1; omega), fun c hk => by rw [hoo.2.1 c (by have := g1.1.2.2.1.1; unfold kxI at hk; unfold lrI pnI scI; omega)]⟩, ?_, so, M, e5, hqM, hlast, e7', e3, hM31, bits⟩
        · unfold tapeC at g3 ⊢; rw [ec 1 (by omega), ec 2 (by omega)]; exact g3
        · unfold histC at g5 ⊢; rw [ec 54 (by omega), ec 55 (by omega)]; exact g5
        · unfold slotC at g6 ⊢; rw [ec 54 (by omega), ec 56 (by omega)]; exact g6
        · have e63 : (wI μ1 63 6 (nI M)).1 63 0 = μ.1 63 0 := by rw [wI_off' (by decide), ho1.2.1 63 (by unfold lrI pnI scI; omega)]
          unfold dreamC at g7 ⊢; rw [e63, ec 66 (by omega), ec 67 (by omega), ec 68 (by omega)]; exact g7
        · exact Or.inr ⟨so, wr, M, e7', by rw [hoo.1 63 8 (by decide)]; exact e2, e3, e4, e5, e6, e7, hM31, by rw [wI_at], bits, fun _ s' hs' k hk => by rw [wI_ne (by omega)]; exact w1 s' hs' k hk⟩
        · unfold anI at g10 ⊢; rw [ec 57 (by omega), ec 60 (by omega), ec 61 (by omega)]; exact g10
        · intro a' f x ha hx'
          by_cases e : a' = 12 ∧ f = 5
          · rw [e.1, e.2] at hx'
            rcases hoo.2.2.2 with g | ⟨r, hr, g⟩
            · rw [g] at hx'; exact hcl 12 5 x (by omega) hx'
            · rw [g] at hx'; cases hx'; omega
          · rw [hoo.1 a' f e] at hx'; exact hcl a' f x ha hx'
      · intro μ1 hP1 hp1 hz1 ho1 b1 b2 w1 w2
        have hgt : ¬ nI (2 ^ gT a 0 2) ≤ nI s := nI_ge hs (by omega)
        refine j_iload dX0_learnFor_79 rfl rfl ?_
        refine j_iload dX0_learnFor_81 rfl rfl ?_
        refine j_icmp_ge 99 dX0_learnFor_83 rfl (by decide) (fun h => absurd h hgt) (fun _ => ?_)
        refine j_aload_n dX0_learnFor_86 rfl rfl ?_
        refine j_iload dX0_learnFor_87 rfl rfl ?_
        refine j_iload_n dX0_learnFor_89 rfl rfl ?_
        have q7 : μ1.2.2 63 7 = some so := by rw [ho1.1 63 7 (by decide)]; exact e1
        have q8 : μ1.2.2 63 8 = some wr := by rw [ho1.1 63 8 (by decide)]; exact e2
        have q6 : μ1.1 63 6 = nI m := by rw [ho1.2.1 63 (by unfold lrI pnI scI; omega)]; exact e9
        have hcall := c_X0_learnSet (l := l) hG hP1 hp1 hz1 q7 q8 e3 e4 e5 e6 e7 q6 hmM hM31 hs (fun hm k hk => w2 hm s (Nat.le_refl _) hs k hk)
        refine j_cV (as := [.int (nI s), .int (nI M - 1)]) (rest := []) dX0_learnFor_90 rfl vw_X0_84 (hG 63 (5, 10) rfl) rfl ⟨Nat.le_of_ble_eq_true rfl, Nat.le_of_ble_eq_true rfl⟩ rfl rfl (fun _ _ => Nat.le_of_ble_eq_true rfl) hcall (fun r μ2 hr => ?_)
        obtain ⟨rfl, hp2, hz2, ho2, u1, u2, u3, u4⟩ := hr
        have hP2 := ho2.gPP hP1
        refine j_iinc (nI s + 1) (ls' := [.ref 63, .int x1, .int x2, .int (nI M - 1), .int (nI (2 ^ gT a 0 2)), .int (nI s + 1)]) dX0_learnFor_93 rfl rfl rfl (Nat.le_of_ble_eq_true rfl) rfl ?_
        refine j_goto 79 dX0_learnFor_96 (by decide) ?_
        rw [nI_inc]
        refine ih μ2 hP2 hp2 hz2 (ho1.trans ho2) (fun n hn s' hs' k hk => ?_) (fun n h1 h2 s' hs' k hk => ?_) (fun s' hs' k hk => ?_) (fun hm s' h1 h2 k hk => ?_)
        · rw [u1 n s' (by omega) (Or.inr hn)]; exact b1 n hn s' hs' k hk
        · by_cases e : s' = s
          · rw [e]; exact u2 n h1 h2 k hk
          · rw [u1 n s' (by omega) (Or.inl e)]; exact b2 n h1 h2 s' (by omega) k hk
        · by_cases e : s' = s
          · rw [e]; exact u3 k hk
          · rw [u4 s' k hk e]; exact w1 s' (by omega) k hk
        · rw [u4 s' k hk (by omega)]; exact w2 hm s' (by omega) h2 k hk
    exact loop 0 (Nat.zero_le _) μ hP hf.1 hc.2.2.2.2.2.2.2.2.1 cO5.refl e10 (fun n h1 h2 s' hs' => by omega) (fun s' hs' => by omega) (fun hm s' _ hs' k hk => e11 hm s' hs' k hk)
theorem c_X0_learnFor (hG : gGG G) {μ : jM} (hP : gPP μ) {a : aS} {B t d c q : Nat} (hc : cJ G a B t d μ) (hk : aOK a B) (hg : 167 ≤ G.length) (hcl : jCl G μ) (hcD : c ≤ (gD a).length) (hq : q ≤ 31) :
    jCA l mX0_learnFor 6 2 5504 G [.ref 63, .int (nI c), .int (nI q - 1)] μ (fun r μ' G' => r = none ∧ lfP a B t d c q μ G μ' G') tX := by
  refine jCA.of (ls := [.ref 63, .int (nI c), .int (nI q - 1), .null, .null, .null]) rfl rfl (jnd_ok rfl) (fun _ _ => Nat.le_of_ble_eq_true rfl) ?_
  have hd := hc.2.2.2.2.2.2.1
  have h20 := hd.2.1
  have hD := hk.2.2.2
  refine j_iload_n dX0_learnFor_0 rfl rfl ?_
  refine j_istore_n (ls' := [.ref 63, .int (nI c), .int (nI q - 1), .int (nI q - 1), .null, .null]) dX0_learnFor_1 rfl rfl (Nat.le_of_ble_eq_true rfl) rfl ?_
  refine j_iconst 0 dX0_learnFor_2 rfl (by decide) ?_
  refine j_istore (ls' := [.ref 63, .int (nI c), .int (nI q - 1), .int (nI q - 1), .int (nI 0), .null]) dX0_learnFor_3 rfl (Nat.le_of_ble_eq_true rfl) rfl ?_
  obtain ⟨X, hX⟩ : ∃ X : Option Value → jM → jG → Prop, X = fun r μ' G' => r = none ∧ lfP a B t d c q μ G μ' G' := ⟨_, rfl⟩
  rw [← hX]
  have loop : ∀ i, i ≤ c → ∀ M, M ≤ 31 → q ≤ M → (∀ j, j < i → ∀ d, (gD a)[j]? = some d → d.2.1 < M) → J l mX0_learnFor (jZA 6 2 5504 G.length X tX) G 0 0 5 [.ref 63, .int (nI c), .int (nI q - 1), .int (nI M - 1), .int (nI i), .null] [] μ := by
    refine up_loop c ?_ (fun i hi ih => ?_)
    · intro M hM hqM hall
      have hle : nI c ≤ nI c := nI_le (Nat.le_refl _) (by omega)
      refine j_iload dX0_learnFor_5 rfl rfl ?_
      refine j_iload_n dX0_learnFor_7 rfl rfl ?_
      refine j_icmp_ge 29 dX0_learnFor_8 rfl (by decide) (fun _ => ?_) (fun h => absurd hle h)
      refine j_forget (ls' := [.ref 63, .int (nI c), .int (nI q - 1), .int (nI M - 1), .null, .null]) ⟨Or.inr rfl, Or.inr rfl, Or.inr rfl, Or.inr rfl, Or.inl rfl, Or.inr rfl, trivial⟩ ?_
      refine j_aload_n dX0_learnFor_29 rfl rfl ?_
      rcases hc.2.2.2.2.2.2.2.1 with ⟨hn7, hn8, h60⟩ | ⟨so, wr, m, e1, e2, -⟩
      · refine j_getN (ci := 0) (N := 10) (f := 7) (T := TX0) dX0_learnFor_30 rfl (hG 63 (5, 10) rfl) rfl (by decide) fl_X0_65 rfl hn7 ?_
        refine j_ifnonnullN dX0_learnFor_33 rfl ?_
        refine j_aload_n dX0_learnFor_36 rfl rfl ?_
        refine j_sipush 3968 dX0_learnFor_37 rfl (by decide) ?_
        have sc : jSc G.length ([.ref 63, .int (nI c), .int (nI q - 1), .int (nI M - 1), .null, .null] ++ [Value.ref 63]) := jSc_r (by omega) (jSc_i (jSc_i (jSc_i (jSc_n (jSc_n (jSc_r (by omega) jSc_0))))))
        refine j_newa (kd := 0) (N := 3968) dX0_learnFor_40 rfl rfl (Or.inl ⟨rfl, rfl⟩) ac_int (by decide) rfl (by decide) (Nat.le_of_ble_eq_true rfl) (Nat.le_of_ble_eq_true rfl) (jZg_A (Nat.le_refl _)) sc hcl ?_
        have G1 : gGG (G ++ [(0, 3968)]) := gGG_ext gEx_app hG
        refine j_putR (ci := 0) (N := 10) (f := 7) (T := TX0) dX0_learnFor_42 rfl (G1 63 (5, 10) rfl) rfl (by decide) fl_X0_65 rfl rfl ?_
        refine j_aload_n dX0_learnFor_45 rfl rfl ?_
        refine j_sipush 1536 dX0_learnFor_46 rfl (by decide) ?_
        have gl : (G ++ [((0 : Nat), (3968 : Nat))]).length = G.length + 1 := by simp
        have cl1 : jCl (G ++ [(0, 3968)]) (wP (z0 μ G.length) 63 7 (some G.length)) := by
          intro b f x hb hx
          rw [gl] at hb ⊢
          by_cases e : b = 63
          · subst e
            by_cases f7 : f = 7
            · subst f7; rw [wP_at] at hx; cases hx; omega
            · rw [wP_o f7] at hx
              have : (z0 μ G.length).2.2 63 f = μ.2.2 63 f := by simp [z0, show (63 : Nat) ≠ G.length by omega]
              rw [this] at hx
              have := hcl 63 f x (by omega) hx; omega
          · rw [wP_n e] at hx
            by_cases eg : b = G.length
            · subst eg; simp [z0] at hx
            · have : (z0 μ G.length).2.2 b f = μ.2.2 b f := by simp [z0, eg]
              rw [this] at hx
              have := hcl b f x (by omega) hx; omega
        have sc1 : jSc (G ++ [((0 : Nat), (3968 : Nat))]).length ([.ref 63, .int (nI c), .int (nI q - 1), .int (nI M - 1), .null, .null] ++ [Value.ref 63]) := jSc_r (by omega) (jSc_i (jSc_i (jSc_i (jSc_n (jSc_n (jSc_r (by omega) jSc_0))))))
        refine j_newa (kd := 0) (N := 1536) dX0_learnFor_49 rfl rfl (Or.inl ⟨rfl, rfl⟩) ac_int (by decide) rfl (by decide) (Nat.le_of_ble_eq_true rfl) (Nat.le_of_ble_eq_true rfl) (jZg_A (by rw [gl]; omega)) sc1 cl1 ?_
        have G2 : gGG (G ++ [(0, 3968)] ++ [(0, 1536)]) := gGG_ext gEx_app G1
        refine j_putR (ci := 0) (N := 10) (f := 8) (T := TX0) dX0_learnFor_51 rfl (G2 63 (5, 10) rfl) rfl (by decide) fl_X0_81 rfl rfl ?_
        rw [gl]
        have gl2 : (G ++ [((0 : Nat), (3968 : Nat))] ++ [((0 : Nat), (1536 : Nat))]).length = G.length + 2 := by simp
        have hP2 : gPP (nwM μ G.length) := fun b f x hx => by
          have hb : b < 112 ∨ (112 ≤ b ∧ b < 167) := by
            have := gP_lt hx; omega
          have h3 := hP b f x hx
          by_cases e : b = 63 ∧ (f = 7 ∨ f = 8)
          · rw [e.1] at hx h3
            rcases e.2 with rfl | rfl
            · rw [hn7] at h3; cases h3
            · rw [hn8] at h3; cases h3
          · rw [nw_3 (by omega) (by omega) e]; exact h3
        rw [hX]
        refine learn_main (G := G ++ [(0, 3968)] ++ [(0, 1536)]) (μ := nwM μ G.length) G2 hP2 (cJ_new hg hc h60) (by omega) ⟨by omega, fun i sh h => gEx_app _ _ (gEx_app _ _ h)⟩ ?_ ?_ hM hqM hall (by rw [nw_7 (by omega)]; exact fun z => by cases z)
        · intro b f x hb hx
          rw [gl2] at hb ⊢
          by_cases e : b = G.length ∨ b = G.length + 1
          · rw [nw_new (by omega) e] at hx; cases hx
          · by_cases e63 : b = 63 ∧ (f = 7 ∨ f = 8)
            · rw [e63.1] at hx
              rcases e63.2 with rfl | rfl
              · rw [nw_7 (by omega)] at hx; cases hx; omega
              · rw [nw_8] at hx; cases hx; omega
            · rw [nw_3 (by omega) (by omega) e63] at hx
              have := hcl b f x (by omega) hx; omega
        · refine ⟨fun b q1 q2 => ⟨nw_1 (by omega), nw_2 (by omega), by funext f; exact nw_3 (by omega) (by omega) (by omega)⟩, nw_2 (by omega), fun c hk => by rw [nw_1 (by unfold kxI at hk; omega)]⟩
      · refine j_getR (ci := 0) (N := 10) (f := 7) (T := TX0) so dX0_learnFor_30 rfl (hG 63 (5, 10) rfl) rfl (by decide) fl_X0_65 rfl e1 ?_
        refine j_ifnonnull 54 dX0_learnFor_33 (by decide) ?_
        rw [hX]
        exact learn_main hG hP hc hg ⟨Nat.le_refl _, fun _ _ h => h⟩ hcl ⟨fun c _ _ => ⟨rfl, rfl, rfl⟩, hiK.refl⟩ hM hqM hall (by rw [e1]; exact fun z => by cases z)
    · intro M hM hqM hall
      obtain ⟨dd, hdi, hdm, f1, f2, f3⟩ := dc_at hd (show i < (gD a).length by omega)
      have ci : (nI i).toNatClampNeg = i := nI_clamp (by omega)
      have hd30 := (hD dd hdm).2.1
      refine j_iload dX0_learnFor_5 rfl rfl ?_
      refine j_iload_n dX0_learnFor_7 rfl rfl ?_
      refine j_icmp_ge 29 dX0_learnFor_8 rfl (by decide) (fun h => absurd h (nI_ge hi (by omega))) (fun _ => ?_)
      refine j_iload_n dX0_learnFor_11 rfl rfl ?_
      refine j_aload_n dX0_learnFor_12 rfl rfl ?_
      refine j_getR (ci := 0) (N := 10) (f := 4) (T := TX0) 67 dX0_learnFor_13 rfl (hG 63 (5, 10) rfl) rfl (by decide) fl_X0_22 rfl (hP 63 4 67 rfl) ?_
      refine j_iload dX0_learnFor_16 rfl rfl ?_
      refine j_iald' (j := i) dX0_learnFor_18 rfl (hG 67 (0, 20) rfl) (vp_in_nI (by omega) (by decide)) ci ?_
      rw [f2]
      refine j_max dX0_learnFor_19 rfl vw_X0_72 ⟨Nat.le_of_ble_eq_true rfl, fun _ _ => Nat.le_of_ble_eq_true rfl⟩ ?_
      have hlt := lI_lt (m := M) (i := dd.2.1) (by omega) (by omega)
      obtain ⟨M', hM', hv⟩ : ∃ M', (M' ≤ 31 ∧ M ≤ M' ∧ dd.2.1 < M') ∧ (if nI M - 1 < nI dd.2.1 then nI dd.2.1 else nI M - 1) = nI M' - 1 := by
        by_cases h : M ≤ dd.2.1
        · exact ⟨dd.2.1 + 1, by omega, by rw [if_pos (hlt.mpr h), Int32.sub_eq_add_neg, nI_dec]⟩
        · exact ⟨M, by omega, by rw [if_neg (fun z => h (hlt.mp z))]⟩
      rw [hv]
      refine j_istore_n (ls' := [.ref 63, .int (nI c), .int (nI q - 1), .int (nI M' - 1), .int (nI i), .null]) dX0_learnFor_22 rfl rfl (Nat.le_of_ble_eq_true rfl) rfl ?_
      refine j_iinc (nI i + 1) (ls' := [.ref 63, .int (nI c), .int (nI q - 1), .int (nI M' - 1), .int (nI i + 1), .null]) dX0_learnFor_23 rfl rfl rfl (Nat.le_of_ble_eq_true rfl) rfl ?_
      refine j_goto 5 dX0_learnFor_26 (by decide) ?_
      rw [nI_inc]
      refine ih M' hM'.1 (by omega) (fun j hj w hw => ?_)
      by_cases e : j = i
      · rw [e, hdi] at hw
        cases hw; omega
      · have := hall j (by omega) w hw; omega
  exact loop 0 (Nat.zero_le _) q hq (Nat.le_refl _) (fun j hj => by omega)
end LearnF
