/-! THE CLASS as it is made -/
def m0 : jM := (fun _ _ => 0, fun _ _ => 0, fun _ _ => none)
def mC : jM := kX11 (z0 m0 0)
def a0 : aS := (([], -1), (T0, dLaw), (sBg T0, []), ((fun _ => false), (fun _ _ => 0)), [])
def vK (μ : jM) : Prop := ∀ d, d = 70 ∨ d = 91 → ∀ q, q < 3 → vsK μ (lw d q) (vsQ q)
set_option maxRecDepth 100000 in
theorem mC_pp : gPP mC := by
  intro a f x h
  unfold gP at h
  split at h <;> first | cases h | (split at h <;> first | (cases h; rfl) | cases h)
theorem told_g : ∀ x, x < 21 → gC[91 + x]? = gTold[x]? ∧ gC[70 + x]? = gTold[x]? := by decide +kernel
theorem told_p {a f x : Nat} (h : pTold a f = some x) : gP (91 + a) f = some (91 + x) ∧ gP (70 + a) f = some (70 + x) := by
  unfold pTold at h
  split at h <;> first | cases h | (split at h <;> first | (cases h; exact ⟨rfl, rfl⟩) | cases h)
theorem tO_told {G : jG} {μ : jM} (hG : gGG G) (hP : gPP μ) {d : Nat} (hd : d = 70 ∨ d = 91) : tO gTold pTold G μ d := by
  refine ⟨fun x sh hx => ?_, fun a f x hx => ?_⟩
  · have h21 : x < 21 := (List.getElem?_eq_some_iff.mp hx).1
    obtain ⟨e1, e2⟩ := told_g x h21
    rcases hd with rfl | rfl
    · exact hG _ _ (e2.trans hx)
    · exact hG _ _ (e1.trans hx)
  · obtain ⟨e1, e2⟩ := told_p hx
    rcases hd with rfl | rfl
    · exact hP _ _ _ e2
    · exact hP _ _ _ e1
theorem vs_511 : ∀ i, i < 9 → (((511 : Int32) >>> (nI i &&& 31)) &&& 1 = 0 ↔ vsA i = false) := by decide +kernel
theorem vs_416 : ∀ i, i < 9 → (((416 : Int32) >>> (nI i &&& 31)) &&& 1 = 0 ↔ vsB i = false) := by decide +kernel
set_option maxRecDepth 100000 in
theorem mC_3 : mC.1 79 3 = 511 ∧ mC.1 83 3 = 511 ∧ mC.1 87 3 = 416 ∧ mC.1 100 3 = 511 ∧ mC.1 104 3 = 511 ∧ mC.1 108 3 = 416 := ⟨rfl, rfl, rfl, rfl, rfl, rfl⟩
theorem mC_vK : vK mC := by
  obtain ⟨e1, e2, e3, e4, e5, e6⟩ := mC_3
  have hA : ∀ w, mC.1 w 3 = 511 → vsK mC w vsA := fun w h i hi => by rw [h]; exact vs_511 i hi
  have hB : ∀ w, mC.1 w 3 = 416 → vsK mC w vsB := fun w h i hi => by rw [h]; exact vs_416 i hi
  intro d hd q hq
  have : q = 0 ∨ q = 1 ∨ q = 2 := by omega
  rcases hd with rfl | rfl <;> rcases this with rfl | rfl | rfl
  · exact hA 79 e1
  · exact hA 83 e2
  · exact hB 87 e3
  · exact hA 100 e4
  · exact hA 104 e5
  · exact hB 108 e6
set_option maxRecDepth 100000 in
theorem mC_8 : mC.2.1 8 = wordC := rfl
theorem mC_kw : kwC mC := fun i _ w hw => by
  rw [mC_8]
  unfold wordC
  rw [hw]
set_option maxRecDepth 100000 in
theorem mC_0 : mC.1 1 1 = 0 ∧ mC.1 0 8 = -1 ∧ mC.1 53 = (fun _ => 0) ∧ mC.1 54 = (fun _ => 0) ∧ mC.1 57 2 = -1 ∧ mC.1 59 = (fun _ => 0) ∧ mC.1 63 = (fun _ => 0) ∧ mC.1 65 = (fun _ => 0) := ⟨rfl, rfl, rfl, rfl, rfl, rfl, rfl, rfl⟩
set_option maxRecDepth 100000 in
theorem mC_p : mC.2.2 0 7 = some 70 ∧ mC.2.2 63 7 = none ∧ mC.2.2 63 8 = none := ⟨rfl, rfl, rfl⟩
theorem clF.hi {d : Nat} {μ μ' : jM} (h : clF d μ μ') (h70 : d = 70 ∨ d = 91) : hiC μ μ' := by
  refine ⟨fun c h1 _ => ⟨h.2.1 c (by omega) (by omega) (by omega), h.2.2.2 c (by omega) (by omega) (by omega), by rw [h.1]⟩, fun c f x hx => ?_, h.2.2.2 8 (by decide) (by decide) (by omega), fun c hc => ?_⟩
  · rw [h.1] at hx; exact Or.inl hx
  · by_cases e : d ≤ c ∧ c ≤ d + 20
    · have : c = lw d 0 ∨ c = lw d 1 ∨ c = lw d 2 := by unfold kxI at hc; unfold lw; omega
      rcases this with rfl | rfl | rfl
      · exact h.2.2.1 0 (by decide) 3 (by decide)
      · exact h.2.2.1 1 (by decide) 3 (by decide)
      · exact h.2.2.1 2 (by decide) 3 (by decide)
    · unfold kxI at hc
      rw [h.2.1 c (by omega) (by omega) e]
theorem hiC.kw {μ μ' : jM} (h : hiC μ μ') (hk : kwC μ) : kwC μ' := by unfold kwC at hk ⊢; rw [h.2.2.1]; exact hk
theorem hiC.vK {μ μ' : jM} (h : hiC μ μ') (hk : vK μ) : vK μ' := fun d hd q hq i hi => by
  have e : μ'.1 (lw d q) 3 = μ.1 (lw d q) 3 := h.2.2.2 (lw d q) (by unfold kxI lw; omega)
  rw [e]; exact hk d hd q hq i hi
theorem hiC.cl {G : jG} {μ μ' : jM} (h : hiC μ μ') (hk : jCl G μ) (hg : 112 ≤ G.length) : jCl G μ' := fun a f x ha hx => by
  rcases h.2.1 a f x hx with g | g
  · exact hk a f x ha g
  · omega
section First
variable {l : Launch}
theorem c_X11_init {X : jEX} (hX : jXs X) (h7 : ∀ (G : jG) (μ : jM), G.length = 5 → G[4]? = some (12, 4) → jCl G μ → jCA l mX7_init 6 4 1226 G [.ref 4] μ (fun r μ' G' => r = none ∧ G' = G ++ sX7 ∧ μ' = kX7 μ) X) :
    jCA l mX11_init 8 111 10720 [(16, 9)] [.ref 0] (z0 m0 0) (fun r μ' G' => r = none ∧ G' = gC ∧ gPP μ' ∧ cJ gC a0 0 91 70 μ' ∧ kwC μ' ∧ vK μ' ∧ jCl gC μ') X := by
  refine jCA.of (ls := [.ref 0, .null]) rfl rfl (jnd_ok rfl) (fun _ _ => Nat.le_of_ble_eq_true rfl) ?_
  have hG : gGG gC := fun a sh h => h
  refine n_X11 (G := [(16, 9)]) rfl rfl (fun a f x ha hx => ?_) (by decide) hX h7 ⟨Nat.le_refl _, Nat.le_refl _⟩ (fun cl => ?_)
  · have : a = 0 := by simp at ha; exact ha
    subst this
    cases hx
  have eG : ([(16, 9)] : jG) ++ sX11 = gC := by decide +kernel
  rw [eG] at cl ⊢
  have P1 := mC_pp
  have V1 := mC_vK
  have W1 := mC_kw
  obtain ⟨z1, z0, z53, z54, z57, z59, z63, z65⟩ := mC_0
  obtain ⟨q07, q637, q638⟩ := mC_p
  change jCl gC mC at cl
  show J l mX11_init _ gC 111 10720 117 [.ref 0, .ref 91] [] mC
  obtain ⟨μ1, e1⟩ : ∃ m, mC = m := ⟨_, rfl⟩
  rw [e1] at cl P1 V1 W1 z1 z0 z53 z54 z57 z59 z63 z65 q07 q637 q638 ⊢
  clear e1
  have D1 := tO_told hG P1 (d := 91) (Or.inr rfl)
  have T1 := tO_told hG P1 (d := 70) (Or.inl rfl)
  refine j_aload_n dX11_init_117 rfl rfl ?_
  refine j_cV (as := []) (rest := []) dX11_init_118 rfl vw_X11_73 (hG 91 (13, 20) rfl) rfl ⟨Nat.le_of_ble_eq_true rfl, Nat.le_of_ble_eq_true rfl⟩ rfl rfl (fun _ _ => Nat.le_of_ble_eq_true rfl) (c_X8_clear hG P1 (Or.inr rfl) D1 (V1 91 (Or.inr rfl))) ?_
  rintro _ μ2 ⟨rfl, c2, k2⟩
  have P2 := k2.gPP P1
  have D2 := k2.tO D1
  have i2 := k2.hi (Or.inr rfl)
  obtain ⟨-, -, -, -, hL, hvt⟩ := pOK_0 (Y := [])
  obtain ⟨x2, y2⟩ := dC_tx (Or.inr rfl) c2 (hvt rfl) hL
  refine j_aload_n dX11_init_121 rfl rfl ?_
  refine j_getR (ci := 11) (N := 9) (f := 2) (T := TX11) 12 dX11_init_122 rfl (hG 0 (16, 9) rfl) rfl (by decide) fl_X11_26 rfl (P2 0 2 12 rfl) ?_
  refine j_aload_n dX11_init_125 rfl rfl ?_
  refine j_cV (as := [.ref 91]) (rest := []) dX11_init_126 rfl vw_X11_76 (hG 12 (15, 11) rfl) rfl ⟨Nat.le_of_ble_eq_true rfl, Nat.le_of_ble_eq_true rfl⟩ rfl rfl (fun _ _ => Nat.le_of_ble_eq_true rfl) (c_X10_begin hG P2 (Or.inr rfl) D2 x2 y2) ?_
  rintro _ μ3 ⟨rfl, p3, o3⟩
  have i3 : hiC μ1 μ3 := (i2.trans (hiC_wP (μ := μ2) (c := 12) (f := 0) (x := 91) (by decide) (by decide))).trans (o3.o5.hi (fun c hc => by obtain ⟨b, hb, hc⟩ := hc; unfold kxI; omega) (fun c hc => by omega))
  have P3 := o3.gPP (gPP_wP rfl P2)
  have D3 := p3.1
  have ec3 : ∀ c, c ≠ 3 → c ≠ 11 → (c < 12 ∨ (52 ≤ c ∧ c < 91)) → μ3.1 c = μ1.1 c := fun c h1 h2 h3 => by
    rw [o3.2.1 c (by rintro ⟨b, hb, hc⟩; omega)]
    show μ2.1 c = _
    rw [k2.2.1 c h1 h2 (by omega)]
  refine j_aload_n dX11_init_129 rfl rfl ?_
  refine j_getR (ci := 11) (N := 9) (f := 3) (T := TX11) 52 dX11_init_130 rfl (hG 0 (16, 9) rfl) rfl (by decide) fl_X11_33 rfl (P3 0 3 52 rfl) ?_
  refine j_aload_n dX11_init_133 rfl rfl ?_
  refine j_cV (as := [.ref 91]) (rest := []) dX11_init_134 rfl vw_X11_80 (hG 52 (10, 1) rfl) rfl ⟨Nat.le_of_ble_eq_true rfl, Nat.le_of_ble_eq_true rfl⟩ rfl rfl (fun _ _ => Nat.le_of_ble_eq_true rfl) (c_X5_begin (s := 52) hG P3 (Or.inl rfl) D3 p3.2.2.1 (fun i hi => by show μ3.1 53 i = 0; rw [ec3 53 (by decide) (by decide) (by decide), z53])) ?_
  rintro _ μ4 ⟨rfl, h4⟩
  have h4' : μ4 = sI μ3 53 (cN T0 (sBg T0)) := by rw [h4, cN_bg]
  have o4 : cOff (fun c => c = 53) (fun _ => False) μ3 μ4 := by rw [h4']; exact ⟨rfl, fun c h => sI_ne h, fun _ _ => rfl⟩
  have P4 := o4.gPP P3
  have z534 : μ4.1 53 = cN T0 (sBg T0) := by rw [h4', sI_eq]
  have ec4 : ∀ c, c ≠ 3 → c ≠ 11 → c ≠ 53 → (c < 12 ∨ (52 ≤ c ∧ c < 91)) → μ4.1 c = μ1.1 c := fun c h1 h2 h3 h4 => by rw [o4.2.1 c h3, ec3 c h1 h2 h4]
  have f4 : fcI gC μ4 91 T0 dLaw (sBg T0) 0 := ⟨peI_mv p3 (o4.tO D3) (by rw [o4.1]; exact p3.2.1) (fun c h => ⟨o4.2.1 c (by omega), o4.2.2 c (fun z => z)⟩), z534, ⟨rg_bg, by decide, bg_rt (T := T0)⟩, by rw [ec4 59 (by decide) (by decide) (by decide) (by decide), z59]; exact fun _ _ => rfl⟩
  refine j_aload_n dX11_init_137 rfl rfl ?_
  refine j_getR (ci := 11) (N := 9) (f := 2) (T := TX11) 12 dX11_init_138 rfl (hG 0 (16, 9) rfl) rfl (by decide) fl_X11_26 rfl (P4 0 2 12 rfl) ?_
  refine j_aload_n dX11_init_141 rfl rfl ?_
  refine j_getR (ci := 11) (N := 9) (f := 3) (T := TX11) 52 dX11_init_142 rfl (hG 0 (16, 9) rfl) rfl (by decide) fl_X11_33 rfl (P4 0 3 52 rfl) ?_
  refine j_cV (as := [.ref 52]) (rest := []) dX11_init_145 rfl vw_X11_81 (hG 12 (15, 11) rfl) rfl ⟨Nat.le_of_ble_eq_true rfl, Nat.le_of_ble_eq_true rfl⟩ rfl rfl (fun _ _ => Nat.le_of_ble_eq_true rfl) (fc_now52 hG P4 f4) ?_
  rintro _ μ5 ⟨rfl, P5, s5, o5⟩
  have f5 := fc_n53 f4 s5 o5
  have i5 : hiC μ1 μ5 := (i3.trans (o4.hiC (fun c hc => by omega))).trans (o5.hi (fun c hc => by unfold nwI scI at hc; unfold kxI; omega) (fun c hc => by have := lnL_in hc; omega))
  have ec : ∀ c, c ≠ 3 → c ≠ 11 → c ≠ 53 → (c < 12 ∨ (52 ≤ c ∧ c < 91)) → μ5.1 c = μ1.1 c := fun c h1 h2 h3 h4 => by rw [o5.2.1 c (by unfold nwI scI; omega), ec4 c h1 h2 h3 h4]
  have er : ∀ c f, c ≠ 12 → μ5.2.2 c f = μ1.2.2 c f := fun c f h => by rw [o5.1 c f (fun z => h z.1), o4.1, o3.1, wP_n h, k2.1]
  refine j_vretA dX11_init_148 rfl ⟨rfl, rfl, P5, ⟨f5, ⟨Or.inl rfl, by decide, by rw [er 0 7 (by decide)]; exact q07, tO_told hG P5 (Or.inl rfl)⟩, ⟨by rw [ec 1 (by decide) (by decide) (by decide) (by decide)]; exact z1, Nat.zero_le _, fun i b h => by cases h⟩, by rw [ec 0 (by decide) (by decide) (by decide) (by decide)]; exact z0, ⟨0, by decide, ?_, ?_, Nat.zero_le _, fun j R h => by cases h⟩, ⟨?_, fun s _ h => by cases h⟩, ⟨?_, Nat.zero_le _, fun i b h => by cases h⟩, Or.inl ⟨?_, ?_, ?_⟩, ?_, anI_out ?_⟩, i5.kw W1, i5.vK V1, i5.cl cl (by decide)⟩
  · rw [ec 54 (by decide) (by decide) (by decide) (by decide), z54]; rfl
  · rw [ec 54 (by decide) (by decide) (by decide) (by decide), z54]; rfl
  · rw [ec 54 (by decide) (by decide) (by decide) (by decide), z54]; rfl
  · rw [ec 63 (by decide) (by decide) (by decide) (by decide), z63]; rfl
  · rw [er 63 7 (by decide)]; exact q637
  · rw [er 63 8 (by decide)]; exact q638
  · rw [ec 63 (by decide) (by decide) (by decide) (by decide), z63]
  · rw [ec 65 (by decide) (by decide) (by decide) (by decide), z65]; exact fun _ _ => rfl
  · rw [ec 57 (by decide) (by decide) (by decide) (by decide)]; exact z57
end First
