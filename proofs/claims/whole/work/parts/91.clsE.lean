/-! THE CLASS: sheet; the tape -/
theorem i8_ext {x y : Int32} (h : ∀ i, i < 8 → bt x i = bt y i) : Int32.toInt8 x = Int32.toInt8 y := by
  apply Int8.toBitVec_inj.mp
  show x.toBitVec.signExtend 8 = y.toBitVec.signExtend 8
  refine BitVec.eq_of_getLsbD_eq (fun i hi => ?_)
  rw [BitVec.getLsbD_signExtend, BitVec.getLsbD_signExtend]
  have := h i hi
  unfold bt at this
  simp only [show i < 32 by omega, if_true, this]
theorem byU {x : Int32} {s : Nat} (hs : s ≤ 24) : vp_nar .byte (Int8.toInt32 (Int32.toInt8 ((Int32.toUInt32 x >>> (Int32.toUInt32 (nI s) &&& Int32.toUInt32 31)).toInt32))) = byt x (nI s) := by
  unfold byt
  rw [i8_ext (x := (Int32.toUInt32 x >>> (Int32.toUInt32 (nI s) &&& Int32.toUInt32 31)).toInt32) (y := x >>> (nI s &&& 31)) (fun i hi => by rw [b_ushr s (by omega), b_sshr s (by omega) x (by omega), if_pos (by omega)])]
theorem tapeC_add {μ : jM} {Y : List Int32} {b : Int32} (h : tapeC μ Y) (hl : Y.length < 2000) : tapeC (wI (wI μ 2 (μ.1 1 1).toNatClampNeg b) 1 1 ((μ.1 1 1) + 1)) (Y ++ [b]) ∧ cOff (fun c => c = 1 ∨ c = 2) (fun _ => False) μ (wI (wI μ 2 (μ.1 1 1).toNatClampNeg b) 1 1 ((μ.1 1 1) + 1)) ∧ ∀ f, f ≠ 1 → (wI (wI μ 2 (μ.1 1 1).toNatClampNeg b) 1 1 ((μ.1 1 1) + 1)).1 1 f = μ.1 1 f := by
  obtain ⟨h1, h2, h3⟩ := h
  refine ⟨⟨?_, by simp; omega, fun i c hc => ?_⟩, (cOff_wI (PI := fun c => c = 1 ∨ c = 2) (PL := fun _ => False) (Or.inr rfl)).trans (cOff_wI (Or.inl rfl)), fun f hf => by rw [wI_off' hf, wI_ne (by decide)]⟩
  · rw [wI_at, h1, nI_inc]; simp
  · rw [wI_ne (by decide), h1, nI_clamp (by omega)]
    by_cases e : i = Y.length
    · rw [e, wI_at]
      rw [e] at hc
      simp at hc
      exact hc
    · have hi : i < Y.length := by
        have := (List.getElem?_eq_some_iff.mp hc).1
        simp at this; omega
      rw [wI_off' e]
      rw [List.getElem?_append_left hi] at hc
      exact h3 i c hc
section ClsE
variable {l : Launch} {G : jG}
theorem c_X8_greatestShared (hG : gGG G) {μ : jM} (hP : gPP μ) {a b : Nat} (ha : a < 2 ^ 31) (hb : b < 2 ^ 30) : jC0 l mX8_greatestShared 0 G [.int (nI a), .int (nI b)] μ (pI fun z μ' => μ' = μ ∧ z = nI (Nat.gcd a b)) := by
  refine jC0.of' (ls := [.int (nI a), .int (nI b), .null, .null, .null, .null]) rfl rfl rfl (fun _ _ => Nat.le_of_ble_eq_true rfl) ?_
  refine b_X8_greatestShared_0 hG hP ?_
  have done : ∀ (a i : Nat), J l mX8_greatestShared (jZ0 0 G (pI fun z μ' => μ' = μ ∧ z = nI (Nat.gcd a 0))) G 0 0 7 [.null, .null, .int (nI a), .int (nI 0), .int (nI i), .null] [] μ := fun a i => by
    rw [Nat.gcd_zero_right]
    exact b_X8_greatestShared_7 hG hP (fun _ => ⟨rfl, rfl⟩) (fun _ _ => ⟨rfl, rfl⟩) (fun _ h => absurd rfl h) (fun _ h => absurd rfl h)
  have loop : ∀ (m a b i : Nat), b < 2 ^ m → i + 2 * m ≤ 64 → m ≤ 31 → a < 2 ^ 31 → J l mX8_greatestShared (jZ0 0 G (pI fun z μ' => μ' = μ ∧ z = nI (Nat.gcd a b))) G 0 0 7 [.null, .null, .int (nI a), .int (nI b), .int (nI i), .null] [] μ := by
    intro m
    induction m with
    | zero =>
      intro a b i hb hi _ _
      have : b = 0 := by omega
      subst this
      exact done a i
    | succ m ih =>
      intro a b i hb hi hm ha
      have hb31 : b < 2 ^ 31 := Nat.lt_of_lt_of_le hb (Nat.pow_le_pow_right (by decide) hm)
      by_cases h0 : b = 0
      · subst h0; exact done a i
      · have hn0 : ¬ nI b = 0 := fun z => h0 ((nI_eq (b := 0) hb31 (by decide)).mp z)
        refine b_X8_greatestShared_7 hG hP (fun h => absurd h (nI_ge (b := 64) (by omega) (by decide))) (fun _ h => absurd h hn0) (fun _ _ => hn0) (fun _ _ => ?_)
        rw [pk_rem (d := b) ha (by omega) hb31, nI_inc]
        have hlt : a % b < b := Nat.mod_lt _ (by omega)
        have eg : Nat.gcd a b = Nat.gcd b (a % b) := by rw [Nat.gcd_comm b (a % b), ← Nat.gcd_rec, Nat.gcd_comm b a]
        rw [eg]
        generalize a % b = r at hlt
        by_cases h1 : r = 0
        · subst h1; exact done b (i + 1)
        · have hn1 : ¬ nI r = 0 := fun z => h1 ((nI_eq (b := 0) (by omega) (by decide)).mp z)
          refine b_X8_greatestShared_7 hG hP (fun h => absurd h (nI_ge (b := 64) (by omega) (by decide))) (fun _ h => absurd h hn1) (fun _ _ => hn1) (fun _ _ => ?_)
          rw [pk_rem (d := r) hb31 (by omega) (by omega), nI_inc]
          have eg2 : Nat.gcd b r = Nat.gcd r (b % r) := by rw [Nat.gcd_comm r (b % r), ← Nat.gcd_rec, Nat.gcd_comm r b]
          rw [eg2]
          refine ih r (b % r) (i + 1 + 1) ?_ (by omega) (by omega) (by omega)
          have hh : b % r < r := Nat.mod_lt _ (by omega)
          have hd : b = r * (b / r) + b % r := (Nat.div_add_mod b r).symm
          have hq : 1 ≤ b / r := Nat.div_pos (by omega) (by omega)
          have hr1 : r ≤ r * (b / r) := Nat.le_mul_of_pos_right r hq
          have : 2 ^ (m + 1) = 2 * 2 ^ m := by rw [Nat.pow_succ, Nat.mul_comm]
          omega
  exact loop 30 a b 0 hb (by omega) (by omega) ha
theorem c_X8_sheetChance (hG : gGG G) {μ : jM} (hP : gPP μ) {t : Nat} {T : sT} {Lw : Nat → sLaw} (ht : tO gTold pTold G μ t) (hx : txC μ t T Lw) (d b : Int32) : jC0 l mX8_sheetChance 1 G [.ref t, .int d, .int b] μ (pI fun z μ' => μ' = μ ∧ z = rSheet T d b) := by
  refine jC0.of' (ls := [.ref t, .int d, .int b, .null, .null, .null, .null, .null]) rfl rfl rfl (fun _ _ => Nat.le_of_ble_eq_true rfl) ?_
  have hv := hx.2.2.2.2.2
  have h5 := hv.1.2.2.2.2.2.1
  have h6 := hv.1.2.2.2.2.2.2.1
  have f17 : μ.1 t 17 = nI (T 0 5) := hx.2.1.2.2.2.2.2.1
  have f18 : μ.1 t 18 = nI (T 0 6) := hx.2.1.2.2.2.2.2.2.1
  have e100 : ∀ n, n ≤ 100 → (100 : Int32) - nI n = nI (100 - n) := fun n hn => nI_subN (a := 100) hn
  have m1 : ∀ x y : Nat, x ≤ 100 → y ≤ 100 → x * y ≤ 10000 := fun x y hx hy => Nat.mul_le_mul hx hy
  have tail : ∀ p u w : Nat, shP T d = p → shO T d = u * w → u ≤ 100 → w ≤ 100 → p ≤ 10000 → J l mX8_sheetChance (jZ0 1 G (pI fun z μ' => μ' = μ ∧ z = rSheet T d b)) G 0 0 49 [.null, .null, .int b, .int (nI p), .null, .null, .null, .null] [.int (nI w), .int (nI u)] μ := by
    intro p u w hp hq hu hw hp1
    have hq1 := m1 u w hu hw
    have em : nI u * nI w = nI (u * w) := pk_mul u w
    generalize u * w = q at *
    have p0 : nI p = 0 ↔ p = 0 := nI_eq (b := 0) (by omega) (by decide)
    have sh : ∀ (v : Nat), (v = if b = 0 then p else p + q) → p ≠ 0 → J l mX8_sheetChance (jZ0 1 G (pI fun z μ' => μ' = μ ∧ z = rSheet T d b)) G 0 0 82 [.null, .null, .null, .int (nI p), .null, .int (nI (p + q)), .null, .null] [.int (nI v)] μ := by
      intro v hv hp0
      refine b_X8_sheetChance_82 hG hP (c_X8_greatestShared hG hP (a := p + q) (b := p) (by omega) (by omega)) ?_
      rintro z μ1 ⟨rfl, rfl⟩
      have hg0 : 0 < Nat.gcd (p + q) p := Nat.gcd_pos_of_pos_right _ (by omega)
      have hgl : Nat.gcd (p + q) p ≤ p := Nat.le_of_dvd (by omega) (Nat.gcd_dvd_right _ _)
      have hgn : ¬ nI (Nat.gcd (p + q) p) = 0 := fun e => by have := (nI_eq (b := 0) (by omega) (by decide)).mp e; omega
      refine b_X8_sheetChance_90 hG hP (fun _ => hgn) (fun _ => b_X8_sheetChance_106 hG hP ⟨rfl, ?_⟩) (fun h => absurd h hgn)
      have hvl : v ≤ p + q := by rw [hv]; split <;> omega
      rw [pk_div (by omega) (by omega) (by omega)]
      unfold rSheet
      rw [hp, hq, if_neg (by omega), ← hv, Nat.gcd_comm]
    refine b_X8_sheetChance_49 hG hP (fun h hb => ?_) (fun h hb => ?_) (fun h hb => b_X8_sheetChance_65 hG hP ⟨rfl, ?_⟩) (fun h hb => b_X8_sheetChance_65 hG hP ⟨rfl, ?_⟩)
    · rw [em, nI_add]; exact sh p (by rw [if_pos hb]) (fun z => h (p0.mpr z))
    · rw [em, nI_add]; exact sh (p + q) (by rw [if_neg hb]) (fun z => h (p0.mpr z))
    · have := p0.mp h
      unfold rSheet; rw [hp, hq, this, if_pos hb, if_pos hb]
      split
      · rfl
      · rw [Nat.zero_div]; rfl
    · have := p0.mp h
      unfold rSheet; rw [hp, hq, this, if_neg hb, if_neg hb]
      split
      · rfl
      · rw [Nat.zero_add, Nat.gcd_zero_left, Nat.div_self (by omega)]; rfl
  by_cases hd : d = 0
  · refine b_X8_sheetChance_0 hG hP ht (fun _ => ?_) (fun h => absurd hd h)
    refine b_X8_sheetChance_22 hG hP ht (fun _ => ?_) (fun h => absurd hd h)
    rw [f17, f18, e100 _ h6, e100 _ h5, pk_mul]
    refine tail _ _ _ (by unfold shP; rw [if_pos hd]) ?_ (by omega) h6 (m1 _ _ h5 (by omega))
    unfold shO; rw [if_pos hd]; congr 1; omega
  · refine b_X8_sheetChance_0 hG hP ht (fun h => absurd h hd) (fun _ => ?_)
    refine b_X8_sheetChance_22 hG hP ht (fun h => absurd h hd) (fun _ => ?_)
    rw [f17, f18, e100 _ h6, e100 _ h5, pk_mul]
    refine tail _ _ _ (by unfold shP; rw [if_neg hd]) ?_ (by omega) (by omega) (m1 _ _ h5 h6)
    unfold shO; rw [if_neg hd]
theorem c_X11_sheet (hG : gGG G) {μ : jM} (hP : gPP μ) {a : aS} {B t d : Nat} (hc : cJ G a B t d μ) (x y : Int32) : jC0 l mX11_sheet 2 G [.ref 0, .int x, .int y] μ (pI fun z μ' => z = rSheet (gT a) x y ∧ cJ G a B t d μ' ∧ gPP μ' ∧ hiC μ μ') := by
  refine jC0.of' (ls := [.ref 0, .int x, .int y]) rfl rfl rfl (fun _ _ => Nat.le_of_ble_eq_true rfl) ?_
  have hf := hc.1
  refine b_X11_sheet_0 hG hP hf.1.1 hf.1.2.1 (c_X8_sheetChance hG hP hf.1.1 hf.1.2.2.1 x y) ?_
  rintro z μ1 ⟨rfl, rfl⟩
  exact b_X11_sheet_12 hG hP ⟨rfl, hc, hP, hiC.refl⟩
theorem c_X11_place (hG : gGG G) {μ : jM} (hP : gPP μ) {a : aS} {B t d : Nat} (hc : cJ G a B t d μ) : jC0 l mX11_place 0 G [.ref 0] μ (pI fun z μ' => z = gPl a ∧ cJ G a B t d μ' ∧ gPP μ' ∧ hiC μ μ') := by
  refine jC0.of' (ls := [.ref 0]) rfl rfl rfl (fun _ _ => Nat.le_of_ble_eq_true rfl) ?_
  exact b_X11_place_0 hG hP ⟨hc.2.2.2.1, hc, hP, hiC.refl⟩
/-- only low cells that nothing looks at -/
theorem cJ_low {a : aS} {B t d : Nat} {μ μ' : jM} {Y : List Int32} (hc : cJ G a B t d μ) (ho : cOff (fun c => c = 1 ∨ c = 2) (fun _ => False) μ μ') (hY : tapeC μ' Y) : cJ G (aY a Y) B t d μ' ∧ hiC μ μ' := by
  obtain ⟨h1, ⟨hd, hdt, hd7, hdo⟩, h3, h4, h5, h6, h7, h8, h9, h10⟩ := hc
  have ec : ∀ c, c ≠ 1 → c ≠ 2 → μ'.1 c = μ.1 c := fun c a b => ho.2.1 c (by omega)
  refine ⟨⟨⟨peI_lo ho.o5 (fun c hc => by omega) (fun c hc => hc.elim) h1.1, by rw [ec 53 (by decide) (by decide)]; exact h1.2.1, h1.2.2.1, by rw [ec 59 (by decide) (by decide)]; exact h1.2.2.2⟩, ⟨hd, hdt, by rw [ho.1]; exact hd7, ho.tO hdo⟩, hY, by rw [ec 0 (by decide) (by decide)]; exact h4, ?_, ?_, ?_, ?_, by rw [ec 65 (by decide) (by decide)]; exact h9, ?_⟩, ho.o5.hi (fun c hc => by unfold kxI; omega) (fun c hc => hc.elim)⟩
  · unfold histC at h5 ⊢; rw [ec 54 (by decide) (by decide), ec 55 (by decide) (by decide)]; exact h5
  · unfold slotC at h6 ⊢; rw [ec 54 (by decide) (by decide), ec 56 (by decide) (by decide)]; exact h6
  · unfold dreamC at h7 ⊢; rw [ec 63 (by decide) (by decide), ec 66 (by decide) (by decide), ec 67 (by decide) (by decide), ec 68 (by decide) (by decide)]; exact h7
  · unfold lrC at h8 ⊢
    rw [ho.1, ec 63 (by decide) (by decide)]
    rcases h8 with h | ⟨so, wr, m, e1, e2, e3, e4, e5, e6, e7, e8, e9, e10, e11⟩
    · exact Or.inl h
    · exact Or.inr ⟨so, wr, m, e1, e2, e3, e4, e5, e6, e7, e8, e9, by rw [ec so (by omega) (by omega)]; exact e10, by rw [ec wr (by omega) (by omega)]; exact e11⟩
  · unfold anI at h10 ⊢; rw [ec 57 (by decide) (by decide), ec 60 (by decide) (by decide), ec 61 (by decide) (by decide)]; exact h10
theorem c_X6_add (hG : gGG G) {μ : jM} (hP : gPP μ) {Y : List Int32} (h : tapeC μ Y) (hl : Y.length + 4 ≤ 2000) (x : Int32) : jC0 l mX6_add 0 G [.ref 1, .int x] μ (pV fun μ' => tapeC μ' (Y ++ by4 x) ∧ cOff (fun c => c = 1 ∨ c = 2) (fun _ => False) μ μ') := by
  refine jC0.of' (ls := [.ref 1, .int x, .null]) rfl rfl rfl (fun _ _ => Nat.le_of_ble_eq_true rfl) ?_
  have ix : ∀ {μ : jM} {Y : List Int32}, tapeC μ Y → Y.length < 2000 → vp_in (μ.1 1 1) 2000 ∧ ¬ (2000 : Int32) ≤ μ.1 1 1 := fun h h2 => by rw [h.1]; exact ⟨vp_in_nI h2 (by decide), nI_ge (b := 2000) h2 (by decide)⟩
  have e4 : Y ++ by4 x = (((Y ++ [byt x 24]) ++ [byt x 16]) ++ [byt x 8]) ++ [byt x 0] := by simp [by4]
  have u24 := byU (x := x) (s := 24) (by decide)
  have u16 := byU (x := x) (s := 16) (by decide)
  have u8 := byU (x := x) (s := 8) (by decide)
  have u0 := byU (x := x) (s := 0) (by decide)
  rw [e4]
  refine b_X6_add_0 hG hP ?_
  obtain ⟨t1, o1, -⟩ := tapeC_add (b := byt x 24) h (by omega)
  have P1 := o1.gPP hP
  refine b_X6_add_3 hG hP (fun h => absurd h (by decide)) (fun _ h' => absurd h' (ix h (by omega)).2) (fun _ _ => (ix h (by omega)).1) (fun _ _ => ?_)
  rw [show (24 : Int32) = nI 24 from rfl, u24]
  obtain ⟨t2, o2, -⟩ := tapeC_add (b := byt x 16) t1 (by simp; omega)
  have P2 := o2.gPP P1
  refine b_X6_add_3 hG P1 (fun h => absurd h (by decide)) (fun _ h' => absurd h' (ix t1 (by simp; omega)).2) (fun _ _ => (ix t1 (by simp; omega)).1) (fun _ _ => ?_)
  rw [show (nI 24 + (-8) : Int32) = nI 16 from rfl, u16]
  obtain ⟨t3, o3, -⟩ := tapeC_add (b := byt x 8) t2 (by simp; omega)
  have P3 := o3.gPP P2
  refine b_X6_add_3 hG P2 (fun h => absurd h (by decide)) (fun _ h' => absurd h' (ix t2 (by simp; omega)).2) (fun _ _ => (ix t2 (by simp; omega)).1) (fun _ _ => ?_)
  rw [show (nI 16 + (-8) : Int32) = nI 8 from rfl, u8]
  obtain ⟨t4, o4, -⟩ := tapeC_add (b := byt x 0) t3 (by simp; omega)
  have P4 := o4.gPP P3
  refine b_X6_add_3 hG P3 (fun h => absurd h (by decide)) (fun _ h' => absurd h' (ix t3 (by simp; omega)).2) (fun _ _ => (ix t3 (by simp; omega)).1) (fun _ _ => ?_)
  rw [show (nI 8 + (-8) : Int32) = nI 0 from rfl, u0]
  exact b_X6_add_3 hG P4 (fun _ => ⟨t4, ((o1.trans o2).trans o3).trans o4⟩) (fun h => absurd (by decide) h) (fun h => absurd (by decide) h) (fun h => absurd (by decide) h)
theorem c_X11_feed (hG : gGG G) {μ : jM} (hP : gPP μ) {a : aS} {B t d : Nat} (hc : cJ G a B t d μ) (x1 x2 x3 x4 x5 : Int32) : jC0 l mX11_feed 1 G [.ref 0, .int x1, .int x2, .int x3, .int x4, .int x5] μ (pI fun z μ' => z = (dFeed (gY a) x1 x2 x3 x4 x5).1 ∧ cJ G (aY a (dFeed (gY a) x1 x2 x3 x4 x5).2) B t d μ' ∧ gPP μ' ∧ hiC μ μ') := by
  refine jC0.of' (ls := [.ref 0, .int x1, .int x2, .int x3, .int x4, .int x5]) rfl rfl rfl (fun _ _ => Nat.le_of_ble_eq_true rfl) ?_
  have h2 := hc.2.2.1
  have hle : ((μ.1 1 1) + 20 ≤ (2000 : Int32)) ↔ (gY a).length + 20 ≤ 2000 := by
    rw [h2.1, show (20 : Int32) = nI 20 from rfl, nI_add]; exact nI_leI (b := 2000) (by have := h2.2.1; omega) (by decide)
  unfold dFeed
  by_cases hcc : (gY a).length + 20 ≤ 2000
  · rw [if_pos hcc]
    refine b_X11_feed_0 hG hP (fun _ => c_X6_add hG hP h2 (by omega) x1) (fun _ => ?_) (fun h => absurd (hle.mpr hcc) h)
    rintro μ1 ⟨t1, o1⟩
    have P1 := o1.gPP hP
    have L4 : ∀ (Y : List Int32) x, (Y ++ by4 x).length = Y.length + 4 := fun Y x => by simp [by4]
    refine b_X11_feed_26 hG P1 (c_X6_add hG P1 t1 (by rw [L4]; omega) x2) ?_
    rintro μ2 ⟨t2, o2⟩
    have P2 := o2.gPP P1
    refine b_X11_feed_34 hG P2 (c_X6_add hG P2 t2 (by rw [L4, L4]; omega) x3) ?_
    rintro μ3 ⟨t3, o3⟩
    have P3 := o3.gPP P2
    refine b_X11_feed_42 hG P3 (c_X6_add hG P3 t3 (by rw [L4, L4, L4]; omega) x4) ?_
    rintro μ4 ⟨t4, o4⟩
    have P4 := o4.gPP P3
    refine b_X11_feed_51 hG P4 (c_X6_add hG P4 t4 (by rw [L4, L4, L4, L4]; omega) x5) ?_
    rintro μ5 ⟨t5, o5⟩
    have P5 := o5.gPP P4
    have ee : gY a ++ by4 x1 ++ by4 x2 ++ by4 x3 ++ by4 x4 ++ by4 x5 = gY a ++ by20 x1 x2 x3 x4 x5 := by simp [by20, List.append_assoc]
    rw [ee] at t5
    obtain ⟨hc5, hi5⟩ := cJ_low hc ((((o1.trans o2).trans o3).trans o4).trans o5) t5
    refine b_X11_feed_60 hG P5 ⟨?_, hc5, P5, hi5⟩
    rw [t5.1]
    congr 1
    simp [by20, by4]
  · rw [if_neg hcc]
    exact b_X11_feed_0 (ψ0 := fun _ => True) hG hP (fun h => absurd (hle.mp h) hcc) (fun h => absurd (hle.mp h) hcc) (fun _ => ⟨rfl, hc, hP, hiC.refl⟩)
theorem c_X11_back (hG : gGG G) {μ : jM} (hP : gPP μ) {a : aS} {B t d : Nat} (hc : cJ G a B t d μ) (x : Int32) : jC0 l mX11_back 0 G [.ref 0, .int x] μ (pI fun z μ' => z = (dBack (gY a) x).1 ∧ cJ G (aY a (dBack (gY a) x).2) B t d μ' ∧ gPP μ' ∧ hiC μ μ') := by
  refine jC0.of' (ls := [.ref 0, .int x]) rfl rfl rfl (fun _ _ => Nat.le_of_ble_eq_true rfl) ?_
  have h2 := hc.2.2.1
  have hl := h2.2.1
  have no : ¬ isN x ((gY a).length + 1) → dBack (gY a) x = (-1, gY a) := fun h => if_neg h
  refine b_X11_back_0 hG hP (fun h => ?_) (fun h0 h => ?_) (fun h0 h => ?_)
  · rw [no (isN_lt h (by omega))]; exact ⟨rfl, hc, hP, hiC.refl⟩
  · rw [h2.1] at h
    obtain ⟨k, hk, rfl⟩ := isN_ok (n := (gY a).length) (by omega) rfl h0 h
    have yes : dBack (gY a) (nI k) = (nI ((gY a).length - k), (gY a).take ((gY a).length - k)) := by
      unfold dBack; rw [if_pos ⟨k, hk, rfl⟩, nI_clamp (by omega)]
    rw [yes, h2.1, nI_subN (by omega)]
    have oo : cOff (fun c => c = 1 ∨ c = 2) (fun _ => False) μ (wI μ 1 1 (nI ((gY a).length - k))) := cOff_wI (Or.inl rfl)
    obtain ⟨hc5, hi5⟩ := cJ_low (Y := (gY a).take ((gY a).length - k)) hc oo ⟨by rw [wI_at, List.length_take, Nat.min_eq_left (by omega)], by rw [List.length_take]; omega, fun i b hb => by
      rw [wI_ne (by decide)]
      refine h2.2.2 i b ?_
      rw [List.getElem?_take] at hb
      split at hb
      · exact hb
      · cases hb⟩
    exact ⟨rfl, hc5, hP, hi5⟩
  · rw [h2.1] at h
    rw [no (isN_big (n := (gY a).length) (by omega) rfl h)]; exact ⟨rfl, hc, hP, hiC.refl⟩
end ClsE
