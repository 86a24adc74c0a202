/-! THE CLASS reads: a text into the draft -/
def LK (μ : jM) (w : Nat) (vs : Nat → Bool) (K : List (Nat × Nat)) (u : Nat → Bool) : Prop := lwS μ w vs K u ∧ ∀ i, i < 84 → μ.2.1 (w + 1) i = -1
theorem LK_o {μ μ' : jM} {w w' : Nat} {vs u : Nat → Bool} {K : List (Nat × Nat)} {F : List Nat} (h : LK μ w vs K u) (ho : lG w' F μ μ') (h79 : 79 ≤ w) (hw : w + 4 ≤ w' ∨ w' + 4 ≤ w) : LK μ' w vs K u := by
  unfold LK lwS vsK at h ⊢
  rw [ho.2.1 w (by omega) (fun z => by omega) (by omega) (by omega), ho.2.1 (w + 3) (by omega) (fun z => by omega) (by omega) (by omega), ho.2.2.2.2 w (by omega) (by omega), ho.2.2.2.2 (w + 1) (by omega) (by omega)]; exact h
theorem LK_l {μ μ' : jM} {w : Nat} {vs u u' : Nat → Bool} {K K' : List (Nat × Nat)} {F : List Nat} (h : LK μ w vs K u) (hs : lwS μ' w vs K' u') (ho : lF w F μ μ') : LK μ' w vs K' u' := ⟨hs, fun i hi => by rw [ho.2.2.2.2.1 (w + 1) (by omega)]; exact h.2 i hi⟩
theorem vsK_o {μ μ' : jM} {w w' : Nat} {vs : Nat → Bool} {F : List Nat} (h : vsK μ w vs) (ho : lG w' F μ μ') (h79 : 79 ≤ w) (hw : w + 4 ≤ w' ∨ w' + 4 ≤ w) : vsK μ' w vs := by
  unfold vsK at h ⊢
  rw [ho.2.1 w (by omega) (fun z => by omega) (by omega) (by omega)]; exact h
theorem lG.mono {w : Nat} {F F' : List Nat} {μ μ' : jM} (h : lG w F μ μ') (hF : ∀ f ∈ F, f ∈ F') : lG w F' μ μ' := ⟨h.1, fun c a b => h.2.1 c a (fun z q => b z (hF 5 q)), h.2.2.1, fun f a => h.2.2.2.1 f (fun z => a (hF f z)), h.2.2.2.2⟩
theorem tll_semi {Y : List Int32} {t : Nat} {w : Nat × Nat} {T : sT} {Lw : Nat → sLaw} {N : nL} : ∃ x, tll Y t w T Lw N = semi Y x := by
  unfold tll
  split
  · exact ⟨tPc Y t w T Lw N, by unfold semi tlP tPc; split <;> first | (simp only [bd_bd, bd_ok]; done) | (simp only [bd_bd, bd_ok]; rfl) | rfl⟩
  split
  · exact ⟨tRc Y t w T Lw N, by unfold semi tlR tRc; split <;> first | (simp only [bd_bd, bd_ok]; done) | (simp only [bd_bd, bd_ok]; rfl) | rfl⟩
  split
  · exact ⟨tGc Y t w T Lw N, by unfold semi tlG tGc; split <;> first | (simp only [bd_bd, bd_ok]; done) | (simp only [bd_bd, bd_ok]; rfl) | rfl⟩
  split
  · exact ⟨bd (px (tke Y t) fun a => nmb Y 0 100 (id a) w) fun p => .ok (p.2.1, p.2.2.1, sT1 T 0 4 p.2.2.2, Lw, N), by unfold semi tlF; simp only [px_bd, bd_bd, bd_ok]; rfl⟩
  split
  · exact ⟨bd (px (px (tke Y t) fun a => nmb Y 0 100 (id a) w) fun p => nmb Y 0 100 p.2.1 p.2.2.1) fun p => .ok (p.2.1, p.2.2.1, sT1 (sT1 T 0 5 p.1.2.2.2) 0 6 p.2.2.2, Lw, N), by unfold semi tlM; simp only [px_bd, bd_bd, bd_ok]; rfl⟩
  split
  · exact ⟨bd (px (tke Y t) fun a => nmb Y 0 9999 (id a) w) fun p => .ok (p.2.1, p.2.2.1, sT1 T 0 7 p.2.2.2, Lw, N), by unfold semi tlS; simp only [px_bd, bd_bd, bd_ok]; rfl⟩
  split
  · exact ⟨tLc Y (kd Y t - 25) t w T Lw N, by unfold semi tlL tLc; simp only [bd_bd, bd_ok]⟩
  · exact ⟨.error (1, pl Y t), rfl⟩
theorem tll_2 {Y : List Int32} {t : Nat} {w : Nat × Nat} {T : sT} {Lw : Nat → sLaw} {N : nL} {s : pS} (hp : pOK Y t w T Lw N) (e : tll Y t w T Lw N = .ok s) : t + 2 ≤ s.1 := by
  have h1 := (tll_ok hp e).2
  obtain ⟨x, hx⟩ := tll_semi (Y := Y) (t := t) (w := w) (T := T) (Lw := Lw) (N := N)
  have e' := e
  rw [hx] at e
  unfold semi at e
  obtain ⟨q, -, e⟩ := bd_inv e
  obtain ⟨t', e4, e⟩ := bd_inv e
  cases e
  obtain ⟨k4, et, -⟩ := xpc_ok e4
  have hne : q.1 ≠ t := fun z => by
    rw [z] at k4
    unfold tll at e'
    rw [if_neg (by omega), if_neg (by omega), if_neg (by omega), if_neg (by omega), if_neg (by omega), if_neg (by omega), if_neg (by omega)] at e'
    cases e'
  show t + 2 ≤ t'
  have h1 : t < t' := h1
  omega
theorem k_pos : ∀ k, k < 43 → okK k → (kC k ≤ 0 ↔ k = 0) := by decide +kernel
/-- what reading writes, but for the tokens -/
def rdC (d : Nat) (μ μ' : jM) : Prop := (∀ c f, ¬ (c = 3 ∧ f = 7) → μ'.2.2 c f = μ.2.2 c f) ∧ μ'.2.2 3 7 = some d ∧ (∀ c, c ≠ 3 → c ≠ 5 → c ≠ 6 → c ≠ 11 → ¬ (d ≤ c ∧ c ≤ d + 20) → μ'.1 c = μ.1 c) ∧ (∀ q, q < 3 → ∀ f, f ≠ 5 → μ'.1 (lw d q) f = μ.1 (lw d q) f) ∧ ∀ c, c ≠ 7 → c ≠ 9 → c ≠ 10 → ¬ (d ≤ c ∧ c ≤ d + 20) → μ'.2.1 c = μ.2.1 c
theorem rdC_cl {d : Nat} {μ μ1 μ2 : jM} (h1 : rdC d μ μ1) (h2 : clF d μ1 μ2) : rdC d μ μ2 := ⟨fun c f a => by rw [h2.1]; exact h1.1 c f a, by rw [h2.1]; exact h1.2.1, fun c a b e f g => (h2.2.1 c a f g).trans (h1.2.2.1 c a b e f g), fun q a f b => (h2.2.2.1 q a f b).trans (h1.2.2.2.1 q a f b), fun c a b e f => (h2.2.2.2 c b e f).trans (h1.2.2.2.2 c a b e f)⟩
section ClI
variable {l : Launch} {G : jG} {Y : List Int32} {d : Nat}
theorem c_X8_clear (hG : gGG G) {μ : jM} (hP : gPP μ) (h70 : d = 70 ∨ d = 91) (hd : tO gTold pTold G μ d) (hv : ∀ q, q < 3 → vsK μ (lw d q) (vsQ q)) : jC0 l mX8_clear 2 G [.ref d] μ (pV fun μ' => dC d T0 dLaw [] μ' ∧ clF d μ μ') := by
  refine jC0.of' (ls := [.ref d]) rfl rfl rfl (fun _ _ => Nat.le_of_ble_eq_true rfl) ?_
  have hd70 : 70 ≤ d := by omega
  obtain ⟨μ0, e0⟩ : ∃ m, (wI (wI (wI (wI (wI μ d 0 0) d 1 0) d 2 0) d 6 0) d 7 0) = m := ⟨_, rfl⟩
  have f0 : clF d μ μ0 := by rw [← e0]; exact (((clF_wd.trans clF_wd).trans clF_wd).trans clF_wd).trans clF_wd
  have P0 := f0.gPP hP
  have D0 := f0.tO hd
  have z0 : μ0.1 d 0 = 0 ∧ μ0.1 d 1 = 0 ∧ μ0.1 d 2 = 0 ∧ μ0.1 d 6 = 0 ∧ μ0.1 d 7 = 0 := by rw [← e0]; simp [wI, upd]
  have v0 : ∀ q, q < 3 → vsK μ0 (lw d q) (vsQ q) := fun q hq => by
    unfold vsK
    rw [f0.2.2.1 q hq 3 (by decide)]; exact hv q hq
  have w0 : lw d 0 = d + 9 := rfl
  have w1 : lw d 1 = d + 13 := rfl
  have w2 : lw d 2 = d + 17 := rfl
  have V0 := v0 0 (by decide)
  have V1 := v0 1 (by decide)
  have V2 := v0 2 (by decide)
  have L0 := tO_law D0 (q := 0) (by decide)
  rw [w0] at V0 L0
  rw [w1] at V1
  rw [w2] at V2
  refine b_X8_clear_0 hG hP hd (by rw [e0]; exact c_X2_clear hG P0 (by omega) L0 V0) (fun μ1 h1 => ?_)
  obtain ⟨s1, k1, o1⟩ := h1
  have g1 : lG (d + 9) [] μ0 μ1 := o1
  have P1 : gPP μ1 := gPP_of o1.1 P0
  have D1 : tO gTold pTold G μ1 d := tO_of o1.1 D0
  have L1 := tO_law D1 (q := 0) (by decide)
  rw [w0] at L1
  refine b_X8_clear_32 hG P1 D1 (c_X2_addVar (i := 4) hG P1 (by omega) L1 s1 (by decide) (by decide) rfl) (fun μ2 h2 => ?_)
  obtain ⟨s2, o2⟩ := h2
  have P2 := o2.gPP P1
  have D2 := o2.tO D1
  refine b_X8_clear_40 hG P2 D2 (c_X2_add (k := 7) (n := 0) hG P2 (by omega) (o2.tO L1) s2 (by rw [List.length_append, cE_len]; decide) (by decide) (by decide) rfl rfl) (fun v3 μ3 h3 => ?_)
  obtain ⟨-, s3, o3⟩ := h3
  have P3 := o3.gPP P2
  have D3 := o3.tO D2
  have A3 : LK μ3 (d + 9) (vsQ 0) (([] ++ cE (vsQ 0) [(1, nI 4)]) ++ [(7, 0)]) (uP (fun _ => false) 4) := LK_l (LK_l ⟨s1, k1⟩ s2 o2) s3 o3
  have G3 : lG (d + 9) [] μ0 μ3 := (g1.trans o2.G).trans o3.G
  have L3 := tO_law D3 (q := 1) (by decide)
  rw [w1] at L3
  refine b_X8_clear_50 hG P3 D3 (c_X2_clear hG P3 (by omega) L3 (vsK_o V1 G3 (by omega) (by omega))) (fun μ4 h4 => ?_)
  obtain ⟨s4, k4, o4⟩ := h4
  have P4 : gPP μ4 := gPP_of o4.1 P3
  have D4 : tO gTold pTold G μ4 d := tO_of o4.1 D3
  have L4 : tO gLaw pLaw G μ4 (d + 13) := tO_of o4.1 L3
  refine b_X8_clear_58 hG P4 D4 (c_X2_add (k := 0) (n := 5) hG P4 (by omega) L4 s4 (by decide) (by decide) (by decide) rfl rfl) (fun v5 μ5 h5 => ?_)
  obtain ⟨-, s5, o5⟩ := h5
  have P5 := o5.gPP P4
  have D5 := o5.tO D4
  refine b_X8_clear_67 hG P5 D5 (c_X2_add (k := 7) (n := 0) hG P5 (by omega) (o5.tO L4) s5 (by decide) (by decide) (by decide) rfl rfl) (fun v6 μ6 h6 => ?_)
  obtain ⟨-, s6, o6⟩ := h6
  have P6 := o6.gPP P5
  have D6 := o6.tO D5
  have B6 : LK μ6 (d + 13) (vsQ 1) (([] ++ [(0, 5)]) ++ [(7, 0)]) (fun _ => false) := LK_l (LK_l ⟨s4, k4⟩ s5 o5) s6 o6
  have G6 : lG (d + 13) [] μ3 μ6 := (show lG (d + 13) [] μ3 μ4 from o4).trans (o5.G.trans o6.G)
  have L6 := tO_law D6 (q := 2) (by decide)
  rw [w2] at L6
  refine b_X8_clear_78 hG P6 D6 (c_X2_clear hG P6 (by omega) L6 (vsK_o (vsK_o V2 G3 (by omega) (by omega)) G6 (by omega) (by omega))) (fun μ7 h7 => ?_)
  obtain ⟨s7, k7, o7⟩ := h7
  have P7 : gPP μ7 := gPP_of o7.1 P6
  have D7 : tO gTold pTold G μ7 d := tO_of o7.1 D6
  have L7 : tO gLaw pLaw G μ7 (d + 17) := tO_of o7.1 L6
  refine b_X8_clear_86 hG P7 D7 (c_X2_add (k := 0) (n := 99) hG P7 (by omega) L7 s7 (by decide) (by decide) (by decide) rfl rfl) (fun v8 μ8 h8 => ?_)
  obtain ⟨-, s8, o8⟩ := h8
  have P8 := o8.gPP P7
  have D8 := o8.tO D7
  refine b_X8_clear_96 hG P8 D8 (c_X2_add (k := 7) (n := 0) hG P8 (by omega) (o8.tO L7) s8 (by decide) (by decide) (by decide) rfl rfl) (fun v9 μ9 h9 => ?_)
  obtain ⟨-, s9, o9⟩ := h9
  have P9 := o9.gPP P8
  have D9 := o9.tO D8
  have C9 : LK μ9 (d + 17) (vsQ 2) (([] ++ [(0, 99)]) ++ [(7, 0)]) (fun _ => false) := LK_l (LK_l ⟨s7, k7⟩ s8 o8) s9 o9
  have G9 : lG (d + 17) [] μ6 μ9 := (show lG (d + 17) [] μ6 μ7 from o7).trans (o8.G.trans o9.G)
  have A9 := LK_o (LK_o A3 G6 (by omega) (by omega)) G9 (by omega) (by omega)
  have B9 := LK_o B6 G9 (by omega) (by omega)
  have f9 : clF d μ0 μ9 := ((clF_l (q := 0) G3 (by decide) hd70).trans (clF_l (q := 1) G6 (by decide) hd70)).trans (clF_l (q := 2) G9 (by decide) hd70)
  have ed : μ9.1 d = μ0.1 d := by rw [G9.2.1 d (by omega) (fun z => by omega) (by omega) (by omega), G6.2.1 d (by omega) (fun z => by omega) (by omega) (by omega), G3.2.1 d (by omega) (fun z => by omega) (by omega) (by omega)]
  obtain ⟨μA, eA⟩ : ∃ m, (wI (wI (wI (wI μ9 d 16 0) d 17 10) d 18 20) d 19 0) = m := ⟨_, rfl⟩
  have fA : clF d μ9 μA := by rw [← eA]; exact ((clF_wd.trans clF_wd).trans clF_wd).trans clF_wd
  have zA : μA.1 d 16 = 0 ∧ μA.1 d 17 = 10 ∧ μA.1 d 18 = 20 ∧ μA.1 d 19 = 0 := by rw [← eA]; simp [wI, upd]
  have hA : ∀ f, f ≠ 16 → f ≠ 17 → f ≠ 18 → f ≠ 19 → μA.1 d f = μ0.1 d f := fun f h1 h2 h3 h4 => by rw [← eA, wI_off' h4, wI_off' h3, wI_off' h2, wI_off' h1, ed]
  have cA : ∀ c, c ≠ d → μA.1 c = μ9.1 c := fun c hc => by rw [← eA, wI_ne hc, wI_ne hc, wI_ne hc, wI_ne hc]
  have lA : ∀ c, μA.2.1 c = μ9.2.1 c := fun c => by rw [← eA]; rfl
  refine b_X8_clear_107 hG P9 D9 ⟨?_, ?_⟩
  · rw [eA]
    refine ⟨⟨?_, ?_, ?_, ?_, zA.1, zA.2.1, zA.2.2.1, zA.2.2.2⟩, fun k hk => absurd hk (by simp [T0]), ⟨fun k hk => absurd hk (by simp [T0]), fun k _ h32 => ?_⟩, fun k hk => absurd hk (by simp [T0]), ⟨⟨by decide, by decide, trivial, fun x hx => (List.not_mem_nil hx).elim⟩, ?_, ?_, fun j n hj => ?_, fun j n hj => ?_⟩, fun q hq => ?_⟩
    · rw [hA 0 (by decide) (by decide) (by decide) (by decide)]; exact z0.1
    · rw [hA 1 (by decide) (by decide) (by decide) (by decide)]; exact z0.2.1
    · rw [hA 2 (by decide) (by decide) (by decide) (by decide)]; exact z0.2.2.1
    · rw [hA 7 (by decide) (by decide) (by decide) (by decide)]; exact z0.2.2.2.2
    · rw [hA 6 (by decide) (by decide) (by decide) (by decide), z0.2.2.2.1]
      unfold bt; simp
    · rw [hA 0 (by decide) (by decide) (by decide) (by decide)]; exact z0.1
    · rw [hA 2 (by decide) (by decide) (by decide) (by decide)]; exact z0.2.2.1
    · exact absurd hj (by show ¬ ([] : List (List Nat))[j]? = some n; simp)
    · exact absurd hj (by show ¬ ([] : List (List Nat))[j]? = some n; simp)
    · have mv : ∀ {w : Nat} {vs u : Nat → Bool} {K : List (Nat × Nat)}, 79 ≤ w → w ≠ d → w + 3 ≠ d → LK μ9 w vs K u → LK μA w vs K u := fun {w vs u K} _ h1 h2 h => by
        unfold LK lwS vsK at h ⊢
        rw [cA w h1, cA (w + 3) h2, lA w, lA (w + 1)]; exact h
      have : q = 0 ∨ q = 1 ∨ q = 2 := by omega
      rcases this with rfl | rfl | rfl
      · have e2 : uL (dLaw 0) = uP (fun _ => false) 4 := by
          funext i
          show (([(none, [(1, (4 : Int32))])] : sLaw).any _) = _
          unfold uP uE
          simp only [List.any_cons, List.any_nil, Bool.or_false, beq_self_eq_true, Bool.true_and, Bool.false_or]
          by_cases e : i = 4
          · subst e; rfl
          · rw [show (i == 4) = false from by simpa using e]
            show ((4 : Int32).toNatClampNeg == i) = false
            rw [show (4 : Int32).toNatClampNeg = 4 from rfl]
            simpa using fun z : 4 = i => e z.symm
        rw [e2]
        exact mv (by omega) (by omega) (by omega) A9
      · have e2 : uL (dLaw 1) = fun _ => false := by funext i; rfl
        rw [e2]
        exact mv (by omega) (by omega) (by omega) B9
      · have e2 : uL (dLaw 2) = fun _ => false := by funext i; rfl
        rw [e2]
        exact mv (by omega) (by omega) (by omega) C9
  · rw [eA]; exact (f0.trans f9).trans fA
end ClI
