/-! ANSWERS, and the reference gives them: searches -/
noncomputable def rKeepers (T : sT) (Lw : Nat → sLaw) (S : sR) (x y : Int32) : Int32 := gIf x 10 (fun n => if n = 0 then -1 else if -1 ≤ y then pkF (rsP (tkE T Lw S n) (tkO T Lw S n)) (fun p => nI (10 * (p / 4) + p % 4)) y 16 0 0 else -1)
noncomputable def rBreaks (T : sT) (Lw : Nat → sLaw) (S : sR) (x : Int32) : Int32 := gIf x (T 0 1) (fun k => untV (brkP T Lw S k))
noncomputable def rFirst (T : sT) (Lw : Nat → sLaw) (S : sR) (x : Int32) : Int32 := gIf x 2 (fun w => if w = 0 then (fstV T Lw S).2 else (fstV T Lw S).1)
noncomputable def rCutOff (T : sT) (Lw : Nat → sLaw) (S : sR) (x : Int32) : Int32 := gIf x (T 0 2) (fun a => untV (cutP T Lw S a))
noncomputable def rYear (T : sT) (Lw : Nat → sLaw) (S : sR) (x y : Int32) : Int32 := gIf x 61 (fun n => gIf y 21 (fun s => if s = 0 then -1 else yrV T Lw S n s))
def evP (T : sT) (a n : Nat) : Prop := nI n - nI n / nI (T 9 a) * nI (T 9 a) = 0
noncomputable def mtP (T : sT) (a o n : Nat) : Bool := @decide (evP T a n ∧ evP T o n) (Classical.propDecidable _)
/-- the first night that is both GHOSTS', until 99 -/
noncomputable def mtV (T : sT) (n a o : Nat) : Int32 := if fkF (fun j => mtP T a o (n + j)) (100 - n) < 100 - n then nI (n + fkF (fun j => mtP T a o (n + j)) (100 - n)) else -2
noncomputable def rMeets (T : sT) (S : sR) (x y : Int32) : Int32 := gIf x (T 0 2) (fun a => gIf y (T 0 2) (fun o => if a = o then -1 else mtV T (S 67).toNatClampNeg a o))
theorem mtV_at {T : sT} {n a o j : Nat} (hj : j < 100 - n) (h1 : mtP T a o (n + j) = true) (h2 : ∀ i, i < j → ¬ mtP T a o (n + i) = true) : mtV T n a o = nI (n + j) := by
  unfold mtV; rw [fkF_of (P := fun j => mtP T a o (n + j)) _ j hj h1 h2, if_pos hj]
theorem mtV_no {T : sT} {n a o : Nat} (h : ∀ i, i < 100 - n → ¬ mtP T a o (n + i) = true) : mtV T n a o = -2 := by
  unfold mtV; rw [fkF_all (P := fun j => mtP T a o (n + j)) _ h, if_neg (by omega)]
def shP (T : sT) (d : Int32) : Nat := T 0 5 * (if d = 0 then 100 - T 0 6 else T 0 6)
def shO (T : sT) (d : Int32) : Nat := (100 - T 0 5) * (100 - (if d = 0 then 100 - T 0 6 else T 0 6))
def rSheet (T : sT) (d b : Int32) : Int32 := if shP T d + shO T d = 0 then (if b = 0 then 0 else 1) else nI ((if b = 0 then shP T d else shP T d + shO T d) / Nat.gcd (shP T d) (shP T d + shO T d))
theorem pkF_congr {R R' : Nat → Prop} {v : Nat → Int32} {i : Int32} : ∀ (n p : Nat) (f : Int32), (∀ q, p ≤ q → q < p + n → (R q ↔ R' q)) → pkF R v i n p f = pkF R' v i n p f := by
  intro n
  induction n with
  | zero => intro p f _; rfl
  | succ n ih =>
    intro p f h
    have h0 := h p (Nat.le_refl _) (by omega)
    have ih' := fun f => ih (p + 1) f (fun q h1 h2 => h q (by omega) (by omega))
    by_cases hR : R p
    · rw [pkF_yes hR, pkF_yes (h0.mp hR), ih']
    · rw [pkF_no hR, pkF_no (fun z => hR (h0.mpr z)), ih']
theorem rsP_congr {e o e' o' : Nat → Int32} (he : ∀ p, p < 16 → e p = e' p) (ho : ∀ p, p < 16 → o p = o' p) {p : Nat} (hp : p < 16) : rsP e o p ↔ rsP e' o' p := by
  unfold rsP
  have h1 : ∀ r, r < 4 → e (4 * r + p % 4) = e' (4 * r + p % 4) := fun r hr => he _ (by omega)
  have h2 : ∀ r, r < 4 → o (4 * (p / 4) + r) = o' (4 * (p / 4) + r) := fun r hr => ho _ (by omega)
  constructor
  · intro h r hr; rw [← h1 r hr, ← h2 r hr, ← he p hp, ← ho p hp]; exact h r hr
  · intro h r hr; rw [h1 r hr, h2 r hr, he p hp, ho p hp]; exact h r hr
theorem sm_tail {f : Nat → Int32} {n : Nat} : ∀ m, (∀ k, n ≤ k → k < n + m → f k = 0) → sm f (n + m) = sm f n := by
  intro m
  induction m with
  | zero => intro _; rfl
  | succ m ih =>
    intro h
    show sm f (n + m) + f (n + m) = _
    rw [ih (fun k h1 h2 => h k h1 (by omega)), h (n + m) (by omega) (by omega), Int32.add_zero]
theorem sm_zero : ∀ n, sm (fun _ => (0 : Int32)) n = 0 := by
  intro n
  induction n with
  | zero => rfl
  | succ n ih => unfold sm; rw [ih, Int32.add_zero]
theorem sm_even {g : Nat → Int32} {n : Nat} (hn : n ≤ 12) (h : ∀ k, n ≤ k → k < 12 → g k = 0) : sm (fun k => if k % 2 = 0 then g k else 0) n = sm (fun j => g (2 * j)) 6 ∧ sm (fun k => if k % 2 = 0 then 0 else g k) n = sm (fun j => g (2 * j + 1)) 6 := by
  constructor
  · rw [← sm_tail (f := fun k => if k % 2 = 0 then g k else 0) (n := n) (12 - n) (fun k h1 h2 => by rw [h k h1 (by omega)]; simp), show n + (12 - n) = 12 by omega, sm_split, sm_congr (g := fun j => g (2 * j)) 6 (fun i hi => if_pos (by omega)), sm_congr (f := fun j => if (2 * j + 1) % 2 = 0 then g (2 * j + 1) else 0) (g := fun _ => 0) 6 (fun i hi => if_neg (by omega)), sm_zero, Int32.add_zero]
  · rw [← sm_tail (f := fun k => if k % 2 = 0 then 0 else g k) (n := n) (12 - n) (fun k h1 h2 => by rw [h k h1 (by omega)]; simp), show n + (12 - n) = 12 by omega, sm_split, sm_congr (g := fun _ => 0) 6 (fun i hi => if_pos (by omega)), sm_congr (f := fun j => if (2 * j + 1) % 2 = 0 then 0 else g (2 * j + 1)) (g := fun j => g (2 * j + 1)) 6 (fun i hi => if_neg (by omega)), sm_zero, Int32.zero_add]
section ModS
variable {l : Launch} {G : jG}
theorem nr_at {μ : jM} {v : Nat} {T : sT} {Lw : Nat → sLaw} (ht : txM μ v T Lw) : vp_in (μ.1 112 18) 2 ∧ μ.1 123 (μ.1 112 18).toNatClampNeg = nI (T 0 1) := ⟨ix_in ht.1.2 ht.1.1 (by decide), by rw [ix_cl ht.1.2 (by have := ht.1.1; omega)]; exact ht.2.1.2.1⟩
theorem c_X12_stop (hG : gMM G) {μ : jM} (hP : gNN μ) {v : Nat} {T : sT} {Lw : Nat → sLaw} {S : sR} (hm : mNow μ v T Lw S) (x : Int32) : jC0 l mX12_stop 9 G [.ref 112, .int x] μ (pI fun z μ' => z = rStop T Lw S x ∧ mQ μ μ') := by
  refine jC0.of' (ls := [.ref 112, .int x, .null, .null]) rfl rfl rfl (fun _ _ => Nat.le_of_ble_eq_true rfl) ?_
  have hv := hm.1.2.2.2.2.2
  have h12 := hv.1.2.1
  have h7 := hv.1.2.2.1
  have hpw := pow_le _ h12
  refine b_X12_stop_0 hG hP (c_X12_inN hG hP x (n := 1) rfl (by decide)) ?_
  rintro z μ1 ⟨rfl, ⟨rfl, hx⟩ | ⟨rfl, hx⟩⟩
  · obtain ⟨w, hw, rfl⟩ := hx
    rw [show rStop T Lw S (nI w) = _ from gIf_in hw (by decide)]
    have w0 : nI w = 0 ↔ w = 0 := nI_eq (b := 0) (by omega) (by decide)
    refine b_X12_stop_6 hG hP (fun _ => c_X12_copies hG hP hm) (fun _ => ?_) (fun h => absurd h (by decide))
    rintro μ2 ⟨hq2, hm2, ⟨hr, hlo, hth, hod⟩, hP2, -⟩
    refine b_X12_stop_15 hG hP2 ?_
    have hnf : ∀ y, sFr T Lw (nI (T 0 7)) (-1) (upd S 64 (nI y)) (T 0 2) = 0 ↔ noF T Lw (-1) S y := fun y => sFr_0 h7
    have loop : ∀ i, i ≤ 2 ^ T 0 1 → ∀ (μ3 : jM) (b : Int32), mQ μ1 μ3 → mNow μ3 v T Lw S → gNN μ3 → (∃ g, μ3.1 152 = upd S 64 g) → μ3.1 112 58 = nI (T 0 7) → μ3.1 112 60 = -1 → ((b = -1 ∧ ∀ y, y < i → ¬ noF T Lw (-1) S y) ∨ ∃ c, b = nI c ∧ c < i ∧ noF T Lw (-1) S c ∧ ∀ y, y < i → noF T Lw (-1) S y → pcT c 12 < pcT y 12 ∨ (pcT c 12 = pcT y 12 ∧ c ≤ y)) → J l mX12_stop (jZ0 9 G (pI fun z μ' => z = (if w = 0 then (stV T Lw S).1 else (stV T Lw S).2) ∧ mQ μ1 μ')) G 0 0 19 [.ref 112, .int (nI w), .int b, .int (nI i)] [] μ3 := by
      refine up_loop (2 ^ T 0 1) ?_ (fun i hi ih => ?_)
      · intro μ3 b hq3 hm3 hP3 hr3 h58 h60 hb
        obtain ⟨n1, n2⟩ := nr_at hm3.1
        have hle : ((1 : Int32) <<< ((μ3.1 123 (μ3.1 112 18).toNatClampNeg) &&& 31)) ≤ nI (2 ^ T 0 1) := by rw [n2, pow_sh _ h12]; exact nI_le (Nat.le_refl _) (by omega)
        have hst : ∃ c, b = nI c ∧ stP T Lw (-1) S c := by
          rcases hb with ⟨-, hno⟩ | ⟨c, h1, h2, h3, h4⟩
          · exact absurd (noF_full hv) (hno _ (by have := Nat.two_pow_pos (T 0 1); omega))
          · exact ⟨c, h1, h2, h3, h4⟩
        obtain ⟨c, rfl, hc⟩ := hst
        have hX := stX_eq hc
        refine b_X12_stop_19 (ψ2 := fun _ _ => True) (ψ3 := fun _ _ => True) hG hP3 n1 (fun _ h => ⟨?_, hq3⟩) (fun _ _ => c_X12_bits hG hP3 _) (fun _ h => ?_) (fun h => absurd hle h) (fun h => absurd hle h) (fun h => absurd hle h) (fun h => absurd hle h)
        · rw [if_neg (fun z => h (w0.mpr z))]; unfold stV; rw [hX]
        · rintro z μ4 ⟨rfl, rfl⟩
          refine b_X12_stop_83 hG hP3 ⟨?_, hq3⟩
          rw [if_pos (w0.mp h)]; unfold stV; rw [hX]
      · intro μ3 b hq3 hm3 hP3 hr3 h58 h60 hb
        obtain ⟨n1, n2⟩ := nr_at hm3.1
        have hgt : ¬ ((1 : Int32) <<< ((μ3.1 123 (μ3.1 112 18).toNatClampNeg) &&& 31)) ≤ nI i := by rw [n2, pow_sh _ h12]; exact nI_ge hi (by omega)
        obtain ⟨g, hr3⟩ := hr3
        have e64 : (wI μ3 152 64 (nI i)).1 152 = upd S 64 (nI i) := by rw [wI_eq, hr3, upd_upd]
        have hqw : mQ μ3 (wI μ3 152 64 (nI i)) := ⟨mOff_wC (by decide) (by decide), fun j hj => by rw [wI_off' (by omega)]; exact hm3.2.2.1 j hj⟩
        have u65 : upd S 64 (nI i) 65 = S 65 := upd_ne (by decide)
        have hPw : gNN (wI μ3 152 64 (nI i)) := hP3
        have hfree := c_X12_freeNow (l := l) (μ := wI μ3 152 64 (nI i)) (E := upd S 64 (nI i)) (lots := nI (T 0 7)) (od := -1) hG hPw (hqw.now hm3) e64 (by rw [wI_ne (by decide)]; exact h58) (by rw [wI_ne (by decide)]; exact h60) (rt_ok (by rw [u65]; exact hm.2.2.2.2))
        have after : ((b = -1 ∧ ∀ y, y < i → ¬ noF T Lw (-1) S y) ∨ ∃ c, b = nI c ∧ pcT i 12 < pcT c 12 ∧ c < i ∧ noF T Lw (-1) S c ∧ ∀ y, y < i → noF T Lw (-1) S y → pcT c 12 < pcT y 12 ∨ (pcT c 12 = pcT y 12 ∧ c ≤ y)) → ∀ z μ4, (mQ (wI μ3 152 64 (nI i)) μ4 ∧ mNow μ4 v T Lw S ∧ gNN μ4 ∧ mOff [149, 150, 153, 154, 155, 156] [55, 65] (wI μ3 152 64 (nI i)) μ4 ∧ z = sFr T Lw (nI (T 0 7)) (-1) (upd S 64 (nI i)) (T 0 2)) → J l mX12_stop (jZ0 9 G (pI fun z μ' => z = (if w = 0 then (stV T Lw S).1 else (stV T Lw S).2) ∧ mQ μ1 μ')) G 0 0 64 [.ref 112, .int (nI w), .int b, .int (nI i)] [.int z] μ4 := by
          rintro hb z μ4 ⟨hq4, hm4, hP4, ho4, rfl⟩
          have hq' := (hq3.trans hqw).trans hq4
          have hr4 : ∃ g, μ4.1 152 = upd S 64 g := ⟨nI i, by rw [ho4.c 152 (by decide) (by decide)]; exact e64⟩
          have h58' : μ4.1 112 58 = nI (T 0 7) := by rw [ho4.f 58 (by decide), wI_ne (by decide)]; exact h58
          have h60' : μ4.1 112 60 = -1 := by rw [ho4.f 60 (by decide), wI_ne (by decide)]; exact h60
          refine b_X12_stop_64 hG hP4 (fun h => ?_) (fun h => ?_)
          · rw [hnf] at h
            rw [nI_inc]
            refine ih μ4 b hq' hm4 hP4 hr4 h58' h60' ?_
            rcases hb with ⟨h1, h2⟩ | ⟨c, h1, h2, h3, h4, h5⟩
            · refine Or.inl ⟨h1, fun y hy => ?_⟩
              by_cases e : y = i
              · rw [e]; exact h
              · exact h2 y (by omega)
            · refine Or.inr ⟨c, h1, by omega, h4, fun y hy hy2 => ?_⟩
              by_cases e : y = i
              · rw [e] at hy2; exact absurd hy2 h
              · exact h5 y (by omega) hy2
          · rw [hnf] at h
            rw [nI_inc]
            refine ih μ4 (nI i) hq' hm4 hP4 hr4 h58' h60' (Or.inr ⟨i, rfl, by omega, h, fun y hy hy2 => ?_⟩)
            by_cases e : y = i
            · rw [e]; exact Or.inr ⟨rfl, Nat.le_refl _⟩
            · rcases hb with ⟨-, h2⟩ | ⟨c, h1, h2, h3, h4, h5⟩
              · exact absurd hy2 (h2 y (by omega))
              · have := h5 y (by omega) hy2; omega
        rcases hb with ⟨rfl, hno⟩ | ⟨c, rfl, h2, h3, h4⟩
        · exact b_X12_stop_19 (ψ1 := fun _ _ => True) (ψ3 := fun _ _ => True) hG hP3 n1 (fun h => absurd h hgt) (fun h => absurd h hgt) (fun h => absurd h hgt) (fun _ _ => hfree) (fun _ _ => after (Or.inl ⟨rfl, hno⟩)) (fun _ h => absurd (by decide) h) (fun _ h => absurd (by decide) h)
        · have hcp : ¬ nI c < 0 := nI_pos (by omega)
          refine b_X12_stop_19 (ψ1 := fun _ _ => True) (ψ2 := fun _ _ => True) hG hP3 n1 (fun h => absurd h hgt) (fun h => absurd h hgt) (fun h => absurd h hgt) (fun _ h => absurd h hcp) (fun _ h => absurd h hcp) (fun _ _ => c_X12_bits hG hP3 _) (fun _ _ => ?_)
          rintro z μ4 ⟨rfl, rfl⟩
          refine b_X12_stop_42 hG hP3 (c_X12_bits hG hP3 _) ?_
          rintro z μ5 ⟨rfl, rfl⟩
          rw [sBits_nI 12 (by decide), sBits_nI 12 (by decide)]
          have hlt : nI (pcT i 12) < nI (pcT c 12) ↔ pcT i 12 < pcT c 12 := by
            rw [i32_lt, nI_toInt (by have := pcT_le (y := i) 12; omega), nI_toInt (by have := pcT_le (y := c) 12; omega)]; omega
          refine b_X12_stop_46 hG hP3 (fun _ => hfree) (fun h => after (Or.inr ⟨c, rfl, hlt.mp h, h2, h3, h4⟩)) (fun h => ?_)
          rw [nI_inc]
          refine ih μ5 (nI c) hq3 hm3 hP3 ⟨g, hr3⟩ h58 h60 (Or.inr ⟨c, rfl, by omega, h3, fun y hy hy2 => ?_⟩)
          by_cases e : y = i
          · rw [e]
            have : ¬ pcT i 12 < pcT c 12 := fun z => h (hlt.mpr z)
            omega
          · exact h4 y (by omega) hy2
    exact loop 0 (Nat.zero_le _) μ2 (-1) hq2 hm2 hP2 ⟨S 64, by rw [upd_self]; exact hr⟩ hlo hod (Or.inl ⟨rfl, fun y hy => by omega⟩)
  · exact b_X12_stop_6 (ψ0 := fun _ => True) hG hP (fun h => absurd rfl h) (fun h => absurd rfl h) (fun _ => ⟨(gIf_out hx).symm, mQ.refl hm.2.2.1⟩)
theorem c_X12_fillsPut (hG : gMM G) {μ : jM} (hP : gNN μ) {v g n : Nat} {T : sT} {Lw : Nat → sLaw} {S : sR} (hm : mNow μ v T Lw S) (hn : n < 2 ^ 31) (hg : g < 2 ^ 31) : jC0 l mX12_fillsPut 9 G [.ref 112, .int (nI g), .int (nI n)] μ (pV fun μ' => mQ μ μ' ∧ gNN μ' ∧ μ'.1 112 68 = (pmF (putF T Lw S n) (putP g) (2 ^ T 0 1)).1 ∧ μ'.1 112 69 = (pmF (putF T Lw S n) (putP g) (2 ^ T 0 1)).2) := by
  refine jC0.of' (ls := [.ref 112, .int (nI g), .int (nI n), .null]) rfl rfl rfl (fun _ _ => Nat.le_of_ble_eq_true rfl) ?_
  have hv := hm.1.2.2.2.2.2
  have h12 := hv.1.2.1
  have hpw := pow_le _ h12
  refine b_X12_fillsPut_0 hG hP ?_
  have loop : ∀ i, i ≤ 2 ^ T 0 1 → ∀ (μ3 : jM), mQ μ μ3 → mNow μ3 v T Lw S → gNN μ3 → μ3.1 112 68 = (pmF (putF T Lw S n) (putP g) i).1 → μ3.1 112 69 = (pmF (putF T Lw S n) (putP g) i).2 → J l mX12_fillsPut (jZ0 9 G (pV fun μ' => mQ μ μ' ∧ gNN μ' ∧ μ'.1 112 68 = (pmF (putF T Lw S n) (putP g) (2 ^ T 0 1)).1 ∧ μ'.1 112 69 = (pmF (putF T Lw S n) (putP g) (2 ^ T 0 1)).2)) G 0 0 14 [.ref 112, .int (nI g), .int (nI n), .int (nI i)] [] μ3 := by
    refine up_loop (2 ^ T 0 1) ?_ (fun i hi ih => ?_)
    · intro μ3 hq3 hm3 hP3 a1 a2
      obtain ⟨n1, n2⟩ := nr_at hm3.1
      have hle : ((1 : Int32) <<< ((μ3.1 123 (μ3.1 112 18).toNatClampNeg) &&& 31)) ≤ nI (2 ^ T 0 1) := by rw [n2, pow_sh _ h12]; exact nI_le (Nat.le_refl _) (by omega)
      exact b_X12_fillsPut_14 (ψ1 := fun _ _ => True) hG hP3 n1 (fun _ => ⟨hq3, hP3, a1, a2⟩) (fun h => absurd hle h) (fun h => absurd hle h)
    · intro μ3 hq3 hm3 hP3 a1 a2
      obtain ⟨n1, n2⟩ := nr_at hm3.1
      have hgt : ¬ ((1 : Int32) <<< ((μ3.1 123 (μ3.1 112 18).toNatClampNeg) &&& 31)) ≤ nI i := by rw [n2, pow_sh _ h12]; exact nI_ge hi (by omega)
      refine b_X12_fillsPut_14 hG hP3 n1 (fun h => absurd h hgt) (fun _ => c_X12_bits hG hP3 _) (fun _ => ?_)
      rintro z μ4 ⟨rfl, rfl⟩
      refine b_X12_fillsPut_33 hG hP3 (fun _ => c_X12_copies hG hP3 hm3) (fun h => ?_) (fun h => ?_)
      · rintro μ5 ⟨hq5, hm5, ⟨hr, hlo, hth, hod⟩, hP5, ho5⟩
        have e64 : (wI μ5 152 64 (nI i)).1 152 = upd S 64 (nI i) := by rw [wI_eq, hr]
        have hqw : mQ μ5 (wI μ5 152 64 (nI i)) := ⟨mOff_wC (by decide) (by decide), fun j hj => by rw [wI_off' (by omega)]; exact hm5.2.2.1 j hj⟩
        have u65 : upd S 64 (nI i) 65 = S 65 := upd_ne (by decide)
        have hPw : gNN (wI μ5 152 64 (nI i)) := hP5
        have l58 : (wI μ5 152 64 (nI i)).1 112 58 = nI (T 0 7) := by rw [wI_ne (by decide)]; exact hlo
        have l59 : (wI μ5 152 64 (nI i)).1 112 59 = 127 := by rw [wI_ne (by decide)]; exact hth
        have hgo := q_goes (l := l) (μ := wI μ5 152 64 (nI i)) (E := upd S 64 (nI i)) (od := -1) (n := n) hG hPw (hqw.now hm5) e64 (fun j hj => by rw [upd_ne (by omega)]; exact hm.2.2.2.1 j hj) (by rw [wI_ne (by decide)]; exact hod) (rt_ok (by rw [u65]; exact hm.2.2.2.2)) hn
        rw [l58, l59] at hgo
        refine b_X12_fillsPut_44 hG hP5 hgo ?_
        rintro μ6 ⟨hq6, hm6, hP6, ho6, hr6⟩
        have hPi : putP g i = true := decide_eq_true h
        have hfi : μ6.1 152 66 - μ6.1 151 66 = putF T Lw S n i := by rw [hr6, hm6.2.1]; rfl
        have b1 : μ6.1 112 68 = (pmF (putF T Lw S n) (putP g) i).1 := by rw [ho6.f 68 (by decide), wI_ne (by decide), ho5.f 68 (by decide)]; exact a1
        have b2 : μ6.1 112 69 = (pmF (putF T Lw S n) (putP g) i).2 := by rw [ho6.f 69 (by decide), wI_ne (by decide), ho5.f 69 (by decide)]; exact a2
        have hq' := ((hq3.trans hq5).trans hqw).trans hq6
        have hset : pmF (putF T Lw S n) (putP g) (i + 1) = (putF T Lw S n i, nI i) → J l mX12_fillsPut (jZ0 9 G (pV fun μ' => mQ μ μ' ∧ gNN μ' ∧ μ'.1 112 68 = (pmF (putF T Lw S n) (putP g) (2 ^ T 0 1)).1 ∧ μ'.1 112 69 = (pmF (putF T Lw S n) (putP g) (2 ^ T 0 1)).2)) G 0 0 14 [.ref 112, .int (nI g), .int (nI n), .int (nI i + 1)] [] (wI (wI μ6 112 68 (μ6.1 152 66 - μ6.1 151 66)) 112 69 (nI i)) := by
          intro he
          have hq7 : mQ μ6 (wI (wI μ6 112 68 (μ6.1 152 66 - μ6.1 151 66)) 112 69 (nI i)) := ⟨(mOff_wF (by decide)).trans (mOff_wF (by decide)), fun j hj => by rw [wI_ne (by decide), wI_ne (by decide)]; exact hm6.2.2.1 j hj⟩
          rw [nI_inc]
          refine ih _ (hq'.trans hq7) (hq7.now hm6) hP6 ?_ ?_
          · rw [wI_off' (by decide), wI_at, he]; exact hfi
          · rw [wI_at, he]
        refine b_X12_fillsPut_57 hG hP6 (fun hc => hset (pmF_yes ⟨hPi, Or.inl (by rw [← b2]; exact hc)⟩)) (fun _ hc => hset (pmF_yes ⟨hPi, Or.inr (by rw [← b1, ← hfi]; exact hc)⟩)) (fun c1 c2 => ?_)
        rw [nI_inc]
        have he := pmF_no (f := putF T Lw S n) (P := putP g) (n := i) (fun z => by
          rcases z.2 with z | z
          · rw [← b2] at z; exact c1 z
          · rw [← b1, ← hfi] at z; exact c2 z)
        exact ih μ6 hq' hm6 hP6 (by rw [he]; exact b1) (by rw [he]; exact b2)
      · rw [nI_inc]
        have he := pmF_no (f := putF T Lw S n) (P := putP g) (n := i) (fun z => h (of_decide_eq_true z.1))
        exact ih μ4 hq3 hm3 hP3 (by rw [he]; exact a1) (by rw [he]; exact a2)
  have hq0 : mQ μ (wI (wI μ 112 68 (-2)) 112 69 (-2)) := ⟨(mOff_wF (by decide)).trans (mOff_wF (by decide)), fun j hj => by rw [wI_ne (by decide), wI_ne (by decide)]; exact hm.2.2.1 j hj⟩
  exact loop 0 (Nat.zero_le _) _ hq0 (hq0.now hm) hP (by rw [wI_off' (by decide), wI_at]; rfl) (by rw [wI_at]; rfl)
theorem c_X12_in1 (hG : gMM G) {μ : jM} (hP : gNN μ) (x : Int32) {b : Int32} {n : Nat} (hb : b = nI n) (hn : n < 2 ^ 31) : jC0 l mX12_in 0 G [.int x, .int 1, .int b] μ (pI fun z μ' => μ' = μ ∧ ((z = 1 ∧ ∃ k, k < n + 1 ∧ k ≠ 0 ∧ x = nI k) ∨ (z = 0 ∧ ¬ ∃ k, k < n + 1 ∧ k ≠ 0 ∧ x = nI k))) := by
  refine (c_X12_in hG hP x 1 b).mono (pI_mono ?_)
  rintro z μ' ⟨rfl, rfl⟩
  have hi := isN_1 (x := x) (a := 1) (b := b) hn rfl hb
  by_cases h : 1 ≤ x ∧ x ≤ b
  · rw [if_pos h]; exact ⟨rfl, Or.inl ⟨rfl, hi.mp h⟩⟩
  · rw [if_neg h]; exact ⟨rfl, Or.inr ⟨rfl, fun z => h (hi.mpr z)⟩⟩
theorem c_X12_put (hG : gMM G) {μ : jM} (hP : gNN μ) {v : Nat} {T : sT} {Lw : Nat → sLaw} {S : sR} (hm : mNow μ v T Lw S) (x y u : Int32) : jC0 l mX12_put 10 G [.ref 112, .int x, .int y, .int u] μ (pI fun z μ' => z = rPut T Lw S x y u ∧ mQ μ μ') := by
  refine jC0.of' (ls := [.ref 112, .int x, .int y, .int u]) rfl rfl rfl (fun _ _ => Nat.le_of_ble_eq_true rfl) ?_
  have hv := hm.1.2.2.2.2.2
  have h12 := hv.1.2.1
  have hpw := pow_le _ h12
  have hz := mQ.refl hm.2.2.1
  refine b_X12_put_0 hG hP (c_X12_in1 hG hP x (n := 3) rfl (by decide)) ?_
  rintro z μ1 ⟨rfl, ⟨rfl, hx⟩ | ⟨rfl, hx⟩⟩
  · obtain ⟨g, hg, hg0, rfl⟩ := hx
    rw [show rPut T Lw S (nI g) y u = _ from gIf_in1 hg (by decide) hg0]
    refine b_X12_put_6 hG hP (fun h => absurd h (by decide)) (fun _ => c_X12_in1 hG hP y (n := 9) rfl (by decide)) (fun _ => ?_)
    rintro z μ2 ⟨rfl, ⟨rfl, hy⟩ | ⟨rfl, hy⟩⟩
    · obtain ⟨n, hn, hn0, rfl⟩ := hy
      rw [gIf_in1 hn (by decide) hn0]
      refine b_X12_put_16 hG hP (fun h => absurd h (by decide)) (fun _ => c_X12_inN hG hP u (n := 1) rfl (by decide)) (fun _ => ?_)
      rintro z μ3 ⟨rfl, ⟨rfl, hu⟩ | ⟨rfl, hu⟩⟩
      · obtain ⟨w, hw, rfl⟩ := hu
        rw [gIf_in hw (by decide)]
        have w0 : nI w = 0 ↔ w = 0 := nI_eq (b := 0) (by omega) (by decide)
        refine b_X12_put_25 hG hP (fun _ => c_X12_fillsPut hG hP hm (by omega) (by omega)) (fun _ => ?_) (fun h => absurd h (by decide))
        rintro μ4 ⟨hq, hP4, a1, a2⟩
        have hpk := pm_km (f := putF T Lw S n) (P := putP g) (N := 2 ^ T 0 1) (by omega) (fun s hs _ => till_pos hv (by omega) (upd_ne (by decide))) _ (Nat.le_refl _)
        have key : (if T 0 1 < g then (-2 : Int32) else if w = 0 then (kmF (putF T Lw S n) (putP g) (2 ^ T 0 1)).1 else (kmF (putF T Lw S n) (putP g) (2 ^ T 0 1)).2) = if w = 0 then μ4.1 112 68 else μ4.1 112 69 := by
          rw [a1, a2]
          by_cases hlt : T 0 1 < g
          · rw [if_pos hlt]
            rcases hpk with ⟨-, h2, -⟩ | ⟨⟨s, hs, hp⟩, -, -⟩
            · rw [h2]; split <;> rfl
            · exact absurd hp (no_set hlt h12 (by omega) s hs)
          · rw [if_neg hlt]
            rcases hpk with ⟨h1, -, -⟩ | ⟨-, h2, -⟩
            · obtain ⟨s, hs, hp⟩ := some_set (g := g) (n := T 0 1) (by omega) h12 (by omega)
              exact absurd hp (h1 s hs)
            · rw [h2]
        rw [key]
        refine b_X12_put_36 hG hP4 (fun h => ⟨?_, hq⟩) (fun h => ⟨?_, hq⟩)
        · rw [if_neg (fun z => h (w0.mpr z))]
        · rw [if_pos (w0.mp h)]
      · exact b_X12_put_25 (ψ0 := fun _ => True) hG hP (fun h => absurd rfl h) (fun h => absurd rfl h) (fun _ => ⟨(gIf_out hu).symm, hz⟩)
    · exact b_X12_put_16 (ψ1 := fun _ _ => True) hG hP (fun _ => ⟨(gIf_no1 (by decide) hy).symm, hz⟩) (fun h => absurd rfl h) (fun h => absurd rfl h)
  · exact b_X12_put_6 (ψ1 := fun _ _ => True) hG hP (fun _ => ⟨(gIf_no1 (by decide) hx).symm, hz⟩) (fun h => absurd rfl h) (fun h => absurd rfl h)
end ModS
