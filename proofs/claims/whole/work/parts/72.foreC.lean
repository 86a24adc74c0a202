/-! THE CLASS: two keepers; when ROADS break; when a GHOST is cut off -/
noncomputable def kpE (T : sT) (Lw : Nat → sLaw) (S : sR) (n p : Nat) : sR := sNn T Lw (nI (T 0 7)) (nI (p % 4)) 127 n (upd S 65 (nI (p / 4)))
noncomputable def tkE (T : sT) (Lw : Nat → sLaw) (S : sR) (n p : Nat) : Int32 := sm (fun j => kpE T Lw S n p (24 + 2 * j) - S (24 + 2 * j)) 6
noncomputable def tkO (T : sT) (Lw : Nat → sLaw) (S : sR) (n p : Nat) : Int32 := sm (fun j => kpE T Lw S n p (24 + (2 * j + 1)) - S (24 + (2 * j + 1))) 6
theorem sm_split (f : Nat → Int32) : sm f 12 = sm (fun j => f (2 * j)) 6 + sm (fun j => f (2 * j + 1)) 6 := by
  simp only [sm, Nat.mul_zero, Nat.zero_add, Nat.reduceMul, Nat.reduceAdd, Nat.mul_one, Int32.zero_add]
  ac_rfl
theorem sm_sub {f g : Nat → Int32} : ∀ n, sm (fun i => f i - g i) n = sm f n - sm g n := by
  intro n
  induction n with
  | zero => show (0 : Int32) = 0 - 0; decide
  | succ n ih =>
    unfold sm
    rw [ih]
    simp only [Int32.sub_eq_add_neg, Int32.neg_add]
    ac_rfl
theorem alg2 (a b c d : Int32) (h : a - b = c - d) : a - c = b - d := by
  have h1 : a = c - d + b := by
    rw [← h, Int32.sub_eq_add_neg, Int32.add_assoc, Int32.add_left_neg, Int32.add_zero]
  rw [h1]
  simp only [Int32.sub_eq_add_neg]
  rw [show c + -d + b + -c = b + -d + (c + -c) by ac_rfl, Int32.add_right_neg, Int32.add_zero]
theorem alg3 (a b : Int32) : a + b - a = b := by
  simp only [Int32.sub_eq_add_neg]
  rw [show a + b + -a = b + (a + -a) by ac_rfl, Int32.add_right_neg, Int32.add_zero]
theorem tk_odd {T : sT} {Lw : Nat → sLaw} (hv : vT T Lw) {S : sR} {n p : Nat} : (kpE T Lw S n p 66 - S 66) - tkE T Lw S n p = tkO T Lw S n p := by
  have h := (sNn_grow hv (lots := nI (T 0 7)) (od := nI (p % 4)) (th := 127) (S := upd S 65 (nI (p / 4))) n).1
  have h' : iP (kpE T Lw S n p) = iP S := by
    unfold kpE; rw [h]; unfold iP
    rw [upd_ne (by decide), sm_congr (g := fun k => S (24 + k)) 12 (fun i hi => upd_ne (by omega))]
  have h2 := alg2 _ _ _ _ h'
  rw [h2, ← sm_sub, sm_split]
  exact alg3 _ _
/-- both rest at this pair -/
def rsP (e o : Nat → Int32) (p : Nat) : Prop := ∀ r, r < 4 → e (4 * r + p % 4) ≤ e p ∧ o (4 * (p / 4) + r) ≤ o p
/-- the i-th that is so, or how many -/
noncomputable def pkF (R : Nat → Prop) (v : Nat → Int32) (i : Int32) : Nat → Nat → Int32 → Int32
  | 0, _, f => if i = -1 then f else -1
  | n + 1, p, f => @ite _ (R p) (Classical.propDecidable _) (if f = i then v p else pkF R v i n (p + 1) (f + 1)) (pkF R v i n (p + 1) f)
theorem pkF_no {R : Nat → Prop} {v : Nat → Int32} {i f : Int32} {n p : Nat} (h : ¬ R p) : pkF R v i (n + 1) p f = pkF R v i n (p + 1) f := if_neg h
theorem pkF_yes {R : Nat → Prop} {v : Nat → Int32} {i f : Int32} {n p : Nat} (h : R p) : pkF R v i (n + 1) p f = if f = i then v p else pkF R v i n (p + 1) (f + 1) := if_pos h
theorem fkF_all {P : Nat → Bool} : ∀ n, (∀ k, k < n → ¬ P k = true) → fkF P n = n := by
  intro n
  induction n with
  | zero => intro _; rfl
  | succ n ih => intro h; unfold fkF; rw [ih (fun k hk => h k (by omega)), if_neg (by omega), if_neg (h n (by omega))]
/-- the nights until something is so -/
def untV (P : Nat → Bool) : Int32 := if fkF P 201 < 201 then nI (fkF P 201) else -2
theorem untV_at {P : Nat → Bool} {n : Nat} (hn : n < 201) (h1 : P n = true) (h2 : ∀ k, k < n → ¬ P k = true) : untV P = nI n := by
  unfold untV; rw [fkF_of 201 n hn h1 h2, if_pos hn]
theorem untV_no {P : Nat → Bool} (h : ∀ k, k < 201 → ¬ P k = true) : untV P = -2 := by
  unfold untV; rw [fkF_all 201 h, if_neg (by omega)]
noncomputable def brkP (T : sT) (Lw : Nat → sLaw) (S : sR) (k : Nat) : Nat → Bool := fun n => decide (sDn T Lw (nnS T Lw n S) k)
noncomputable def cutP (T : sT) (Lw : Nat → sLaw) (S : sR) (a : Nat) : Nat → Bool := fun n => decide (¬ sDs T Lw (nI (T 0 7)) (-1) (nnS T Lw n S) a (T 5 a) < INF)
/-- the ROADS that are newly BROKEN then -/
noncomputable def nwP (T : sT) (Lw : Nat → sLaw) (S : sR) (n : Nat) : Nat → Bool := fun k => decide (sDn T Lw (nnS T Lw n S) k ∧ ¬ sDn T Lw S k)
noncomputable def fstN (T : sT) (Lw : Nat → sLaw) (S : sR) : Nat → Bool := fun n => decide (fkF (nwP T Lw S (n + 1)) (T 0 1) < T 0 1)
noncomputable def fstV (T : sT) (Lw : Nat → sLaw) (S : sR) : Int32 × Int32 := if fkF (fstN T Lw S) 200 < 200 then (nI (fkF (fstN T Lw S) 200 + 1), nI (fkF (nwP T Lw S (fkF (fstN T Lw S) 200 + 1)) (T 0 1))) else (-2, -2)
theorem fkF_le {P : Nat → Bool} : ∀ n, fkF P n ≤ n := by
  intro n
  induction n with
  | zero => exact Nat.le_refl _
  | succ n ih =>
    unfold fkF
    split
    · omega
    · split <;> omega
theorem fkF_hit {P : Nat → Bool} : ∀ n, fkF P n < n → P (fkF P n) = true ∧ ∀ j, j < fkF P n → ¬ P j = true := by
  intro n h
  by_cases he : ∃ k, k < n ∧ P k = true
  · obtain ⟨k, h1, h2, h3⟩ := first_ex n he
    rw [fkF_of n k h1 h2 h3]; exact ⟨h2, h3⟩
  · rw [fkF_all n (fun k hk z => he ⟨k, hk, z⟩)] at h; omega
section ForeC
variable {l : Launch} {G : jG}
theorem fc_enter (hG : gGG G) {μ : jM} (hP : gPP μ) {t B : Nat} {T : sT} {Lw : Nat → sLaw} {S S' : sR} {od lots th : Int32} (hf : fcI G μ t T Lw S B) (hr : μ.1 59 = cRow S' od lots th) (hg : rgS S' B) (hrt : rtS S' od) : jC0 l mX10_enter 3 G [.ref 12, .ref 58] μ (pV fun μ' => enS G μ' t 59 T Lw S' od lots th B ∧ cO5 (pnI t 59 0) (lnL t) μ μ') := by
  have hB : B ≤ BB := by have := hf.2.2.1.2.1; omega
  have h7 := hf.1.2.2.1.2.2.2.2.2.1.2.2.1
  refine (c_X10_enter hG hP (s := 58) hf.1 (by decide) hr hg hB hrt).mono (pV_mono ?_)
  rintro μ1 ⟨hS1, ho1, -⟩
  refine ⟨hS1, ho1.o5w.mono (fun c hc => ?_) (fun c hc => hc)⟩
  unfold pnI
  rcases hc with z | z | z | ⟨b, z1, z2⟩
  · exact Or.inl z
  · exact Or.inr (Or.inl z)
  · exact Or.inr (Or.inr (Or.inr (Or.inl z)))
  · exact Or.inr (Or.inr (Or.inr (Or.inr (by omega))))
theorem fc_end {μ μ' : jM} {t B B' : Nat} {T : sT} {Lw : Nat → sLaw} {S S' : sR} {od lots th : Int32} (hf : fcI G μ t T Lw S B) (hS : enS G μ' t 59 T Lw S' od lots th B') (ho : cO5 (pnI t 59 0) (lnL t) μ μ') : fcI G μ' t T Lw S B :=
  fc_now hf (enS_pe hS) ho (fun i hi => by rw [hS.1.2.1, cRow_hi hi])
theorem fn_pn {t a c : Nat} (ha : a < 7) (h : fnI t a c) : pnI t 59 0 c := by
  unfold pnI
  rcases h with h | h
  · exact Or.inr (Or.inr (Or.inr (Or.inr (by omega))))
  · exact Or.inr (Or.inr (Or.inr (Or.inl h)))
set_option maxHeartbeats 1000000 in
theorem c_X1_takeByKeepers (hG : gGG G) {μ : jM} (hP : gPP μ) {t B n : Nat} {T : sT} {Lw : Nat → sLaw} {S : sR} (hf : fcI G μ t T Lw S B) (hn : n ≤ 9) (han : μ.1 57 2 = nI (400 + n) → ∀ p, p < 16 → μ.1 60 p = tkE T Lw S n p ∧ μ.1 61 p = tkO T Lw S n p) :
    jC0 l mX1_takeByKeepers 6 G [.ref 57, .int (nI n)] μ (pV fun μ' => gPP μ' ∧ fcI G μ' t T Lw S B ∧ cO5 (foI t) (lnL t) μ μ' ∧ μ'.1 57 2 = nI (400 + n) ∧ ∀ p, p < 16 → μ'.1 60 p = tkE T Lw S n p ∧ μ'.1 61 p = tkO T Lw S n p) := by
  refine jC0.of' (ls := [.ref 57, .int (nI n), .null, .null, .null]) rfl rfl rfl (fun _ _ => Nat.le_of_ble_eq_true rfl) ?_
  have hx := hf.1.2.2.1
  have hv := hx.2.2.2.2.2
  have ht2 := hx.1
  have eq : (400 : Int32) + nI n = nI (400 + n) := nI_add 400 n
  refine b_X1_takeByKeepers_0 hG hP (sr_begin hG hP hf _) ?_
  rw [eq]
  rintro z μ1 (⟨rfl, hq, rfl⟩ | ⟨rfl, hs1⟩)
  · exact b_X1_takeByKeepers_9 hG hP (fun h => absurd h (by decide)) (fun _ => ⟨hP, hf, cO5.refl, hq.symm, han hq.symm⟩)
  · refine b_X1_takeByKeepers_9 hG hs1.1 (fun _ => ?_) (fun h => absurd rfl h)
    have loop : ∀ p, p ≤ 16 → ∀ μ1, gPP μ1 → fcI G μ1 t T Lw S B → cO5 (foI t) (lnL t) μ μ1 → μ1.1 57 2 = nI (400 + n) → (∀ q, q < p → μ1.1 60 q = tkE T Lw S n q ∧ μ1.1 61 q = tkO T Lw S n q) → J l mX1_takeByKeepers (jZ0 6 G (pV fun μ' => gPP μ' ∧ fcI G μ' t T Lw S B ∧ cO5 (foI t) (lnL t) μ μ' ∧ μ'.1 57 2 = nI (400 + n) ∧ ∀ p, p < 16 → μ'.1 60 p = tkE T Lw S n p ∧ μ'.1 61 p = tkO T Lw S n p)) G 0 0 15 [.ref 57, .int (nI n), .int (nI p), .null, .null] [] μ1 := by
      refine up_loop 16 ?_ (fun p hp ih => ?_)
      · intro μ1 h1 h2 h3 h4 h5
        exact b_X1_takeByKeepers_15 (ψ1 := fun _ => True) hG h1 (fun _ => ⟨h1, h2, h3, h4, h5⟩) (fun h => absurd (by decide) h) (fun h => absurd (by decide) h)
      · intro μ1 h1 h2 h3 h4 h5
        have hd : nI p / 4 = nI (p / 4) := pk_div (d := 4) (by omega) (by decide) (by decide)
        have hm : nI p - nI p / 4 * 4 = nI (p % 4) := pk_rem (d := 4) (by omega) (by decide) (by decide)
        refine b_X1_takeByKeepers_15 hG h1 (fun h => absurd h (nI_ge (b := 16) hp (by decide))) (fun _ => fc_start hG h1 h2) (fun _ => ?_)
        rintro μ3 ⟨hP3, hf3, ho3, hr3⟩
        refine b_X1_takeByKeepers_25 hG hP3 (c_X5_setRates hG hP3 (s := 58) (by decide) _ _) ?_
        rintro μ4 rfl
        rw [hm, hd]
        have hf4 : fcI G (wI (wI μ3 59 1 (nI (p / 4))) 59 2 (nI (p % 4))) t T Lw S B := fc_59 (fc_59 hf3 (by decide)) (by decide)
        have hr4 : (wI (wI μ3 59 1 (nI (p / 4))) 59 2 (nI (p % 4))).1 59 = cRow (upd S 65 (nI (p / 4))) (nI (p % 4)) (nI (T 0 7)) (thN T) := by
          rw [wI_eq, wI_eq, hr3, show upd (cRow S (S 65) (nI (T 0 7)) (thN T)) 1 (nI (p / 4)) = cRow (upd S 65 (nI (p / 4))) (S 65) (nI (T 0 7)) (thN T) from (cRow_upd (i := 65) (by decide)).symm, cRow_od]
        have u65 : upd S 65 (nI (p / 4)) 65 = nI (p / 4) := upd_at
        refine b_X1_takeByKeepers_38 (μ := wI (wI μ3 59 1 (nI (p / 4))) 59 2 (nI (p % 4))) hG hP3 (fc_run (μ := wI (wI μ3 59 1 (nI (p / 4))) 59 2 (nI (p % 4))) hG hP3 hf4 hr4 (rgS_65 hf.2.2.1.1) ⟨⟨p / 4, by omega, u65⟩, p % 4, by omega, rfl⟩ (by omega)) ?_
        rintro μ5 ⟨hP5, hf5, ho5, hr5⟩
        have hE : sNn T Lw (nI (T 0 7)) (nI (p % 4)) (thN T) n (upd S 65 (nI (p / 4))) = kpE T Lw S n p := sNn_od hv (fun _ _ _ => rfl) (th_plain hv.1.2.2.1) n
        rw [hE] at hr5
        have ow : cOff (fun c => c = 59) (fun _ => False) μ3 (wI (wI μ3 59 1 (nI (p / 4))) 59 2 (nI (p % 4))) := cOff.trans (μ1 := wI μ3 59 1 (nI (p / 4))) (cOff_wI (PI := fun c => c = 59) rfl) (cOff_wI (PI := fun c => c = 59) rfl)
        have ho34 : cO5 (foI t) (lnL t) μ1 (wI (wI μ3 59 1 (nI (p / 4))) 59 2 (nI (p % 4))) := (ho3.mono (fun c hc => pn_fo (n := 0) (Or.inr (Or.inr (Or.inl hc)))) (fun c hc => hc.elim)).trans (ow.o5.mono (fun c hc => pn_fo (n := 0) (Or.inr (Or.inr (Or.inl hc)))) (fun c hc => hc.elim))
        have hoo := (h3.trans ho34).trans (ho5.mono (fun c hc => pn_fo hc) (fun c hc => hc))
        have ec : ∀ c, c = 57 ∨ c = 60 ∨ c = 61 → μ5.1 c = μ1.1 c := fun c hc => by
          rw [ho5.2.1 c (by unfold pnI scI; omega), ow.2.1 c (by omega), ho3.2.1 c (by omega)]
        refine b_X1_takeByKeepers_43 hG hP5 ?_
        have inner : ∀ j, j ≤ 6 → J l mX1_takeByKeepers (jZ0 6 G (pV fun μ' => gPP μ' ∧ fcI G μ' t T Lw S B ∧ cO5 (foI t) (lnL t) μ μ' ∧ μ'.1 57 2 = nI (400 + n) ∧ ∀ p, p < 16 → μ'.1 60 p = tkE T Lw S n p ∧ μ'.1 61 p = tkO T Lw S n p)) G 0 0 48 [.ref 57, .int (nI n), .int (nI p), .int (sm (fun j => kpE T Lw S n p (24 + 2 * j) - S (24 + 2 * j)) j), .int (nI (2 * j))] [] μ5 := by
          refine up_loop 6 ?_ (fun j hj ihj => ?_)
          · obtain ⟨ev, hev⟩ : ∃ ev, ev = tkE T Lw S n p := ⟨_, rfl⟩
            have hev' : sm (fun j => kpE T Lw S n p (24 + 2 * j) - S (24 + 2 * j)) 6 = ev := hev.symm
            rw [hev']
            have cp : (nI p).toNatClampNeg = p := nI_clamp (by omega)
            have hf6 : fcI G (wI μ5 60 p ev) t T Lw S B := fc_lo hf5 (cOff_wI (PI := fun c => c = 60) (PL := fun _ => False) rfl).o5 (fun c hc => by omega)
            have hr6 : (wI μ5 60 p ev).1 59 = cRow (kpE T Lw S n p) (nI (p % 4)) (nI (T 0 7)) (thN T) := by rw [wI_ne (by decide)]; exact hr5
            refine b_X1_takeByKeepers_48 (ψ1 := fun _ _ => True) hG hP5 (fun _ => vp_in_nI hp (by decide)) (fun _ => by rw [cp]; exact fc_till (μ := wI μ5 60 p ev) hG hP5 hf6 hr6) (fun _ => ?_) (fun h => absurd (by decide) h) (fun h => absurd (by decide) h)
            rintro z μ7 ⟨rfl, rfl⟩
            refine b_X1_takeByKeepers_92 (μ := wI μ5 60 p ev) hG hP5 (vp_in_nI hp (by decide)) ?_
            rw [nI_inc, cp, hev, tk_odd hv]
            have o2 : cO5 (fun c => c = 60 ∨ c = 61) (fun _ => False) μ5 (wI (wI μ5 60 p (tkE T Lw S n p)) 61 p (tkO T Lw S n p)) := (cOff.trans (μ1 := wI μ5 60 p (tkE T Lw S n p)) (cOff_wI (PI := fun c => c = 60 ∨ c = 61) (PL := fun _ => False) (Or.inl rfl)) (cOff_wI (PI := fun c => c = 60 ∨ c = 61) (PL := fun _ => False) (Or.inr rfl))).o5
            refine ih _ hP5 (fc_lo hf5 o2 (fun c hc => by omega)) (hoo.trans (o2.mono (fun c hc => by unfold foI; omega) (fun c hc => hc.elim))) ?_ (fun q hq => ?_)
            · rw [o2.2.1 57 (by decide), ec 57 (by decide)]; exact h4
            · rw [wI_ne (show (60 : Nat) ≠ 61 by decide), wI_eq, wI_eq, wI_ne (show (61 : Nat) ≠ 60 by decide), ec 60 (by decide), ec 61 (by decide)]
              by_cases e : q = p
              · rw [e, upd_at, upd_at]; exact ⟨rfl, rfl⟩
              · rw [upd_ne e, upd_ne e]; exact h5 q (by omega)
          · have h12 : ¬ (12 : Int32) ≤ nI (2 * j) := nI_ge (b := 12) (by omega) (by decide)
            refine b_X1_takeByKeepers_48 (ψ0 := fun _ _ => True) hG hP5 (fun h => absurd h h12) (fun h => absurd h h12) (fun h => absurd h h12) (fun _ => c_X1_grown hG hP5 (c := 31 + 2 * j) (m := 1) (by omega) (nI_add 31 _) rfl) (fun _ => ?_)
            rintro z μ7 ⟨rfl, rfl⟩
            refine b_X1_takeByKeepers_66 hG hP5 ?_
            rw [dfs1, hr5, hf5.2.1, show 31 + 2 * j = 7 + (24 + 2 * j) by omega, cRow_w (by omega), cRow_w (by omega), show nI (2 * j) + 2 = nI (2 * (j + 1)) from by rw [show (2 : Int32) = nI 2 from rfl, nI_add]; congr 1]
            exact ihj
        exact inner 0 (by omega)
    exact loop 0 (by omega) μ1 hs1.1 hs1.2.1 hs1.2.2.1 hs1.2.2.2.1 (fun q hq => by omega)
theorem c_X1_bothRest (hG : gGG G) {μ : jM} (hP : gPP μ) {p : Nat} (hp : p < 16) : jC0 l mX1_bothRest 0 G [.ref 57, .int (nI p)] μ (pI fun z μ' => μ' = μ ∧ ((z = 1 ∧ rsP (μ.1 60) (μ.1 61) p) ∨ (z = 0 ∧ ¬ rsP (μ.1 60) (μ.1 61) p))) := by
  refine jC0.of' (ls := [.ref 57, .int (nI p), .null, .null, .null]) rfl rfl rfl (fun _ _ => Nat.le_of_ble_eq_true rfl) ?_
  have hd : nI p / 4 = nI (p / 4) := pk_div (d := 4) (by omega) (by decide) (by decide)
  have hm : nI p - nI p / 4 * 4 = nI (p % 4) := pk_rem (d := 4) (by omega) (by decide) (by decide)
  refine b_X1_bothRest_0 hG hP ?_
  rw [hm, hd]
  have loop : ∀ r, r ≤ 4 → (∀ q, q < r → (μ.1 60) (4 * q + p % 4) ≤ (μ.1 60) p ∧ (μ.1 61) (4 * (p / 4) + q) ≤ (μ.1 61) p) → J l mX1_bothRest (jZ0 0 G (pI fun z μ' => μ' = μ ∧ ((z = 1 ∧ rsP (μ.1 60) (μ.1 61) p) ∨ (z = 0 ∧ ¬ rsP (μ.1 60) (μ.1 61) p)))) G 0 0 11 [.ref 57, .int (nI p), .int (nI (p / 4)), .int (nI (p % 4)), .int (nI r)] [] μ := by
    refine up_loop 4 ?_ (fun r hr ih => ?_)
    · intro h
      exact b_X1_bothRest_11 hG hP (fun _ => ⟨rfl, Or.inl ⟨rfl, h⟩⟩) (fun h => absurd (by decide) h) (fun h => absurd (by decide) h) (fun h => absurd (by decide) h) (fun h => absurd (by decide) h) (fun h => absurd (by decide) h) (fun h => absurd (by decide) h)
    · intro h
      have e1 : (4 * nI r) + nI (p % 4) = nI (4 * r + p % 4) := by rw [show (4 : Int32) = nI 4 from rfl, pk_mul, nI_add]
      have e2 : (4 * nI (p / 4)) + nI r = nI (4 * (p / 4) + r) := by rw [show (4 : Int32) = nI 4 from rfl, pk_mul, nI_add]
      have c1 : (nI (4 * r + p % 4)).toNatClampNeg = 4 * r + p % 4 := nI_clamp (by omega)
      have c2 : (nI (4 * (p / 4) + r)).toNatClampNeg = 4 * (p / 4) + r := nI_clamp (by omega)
      have cp : (nI p).toNatClampNeg = p := nI_clamp (by omega)
      refine b_X1_bothRest_11 hG hP (fun z => absurd z (nI_ge (b := 4) hr (by decide))) (fun _ => by rw [e1]; exact vp_in_nI (by omega) (by decide)) (fun _ => vp_in_nI hp (by decide)) (fun _ _ => by rw [e2]; exact vp_in_nI (by omega) (by decide)) (fun _ z1 z2 => ?_) (fun _ z1 z2 => ⟨rfl, Or.inr ⟨rfl, fun z => ?_⟩⟩) (fun _ z1 => ⟨rfl, Or.inr ⟨rfl, fun z => ?_⟩⟩)
      · rw [e1, c1, cp] at z1
        rw [e2, c2, cp] at z2
        rw [nI_inc]
        refine ih (fun q hq => ?_)
        by_cases e : q = r
        · rw [e]; exact ⟨z1, z2⟩
        · exact h q (by omega)
      · rw [e2, c2, cp] at z2; exact z2 (z r hr).2
      · rw [e1, c1, cp] at z1; exact z1 (z r hr).1
  exact loop 0 (by omega) (fun q hq => by omega)
theorem c_X1_rest (hG : gGG G) {μ : jM} (hP : gPP μ) (i : Int32) : jC0 l mX1_rest 1 G [.ref 57, .int i] μ (pI fun z μ' => μ' = μ ∧ z = pkF (rsP (μ.1 60) (μ.1 61)) (fun p => nI (10 * (p / 4) + p % 4)) i 16 0 0) := by
  refine jC0.of' (ls := [.ref 57, .int i, .null, .null]) rfl rfl rfl (fun _ _ => Nat.le_of_ble_eq_true rfl) ?_
  refine b_X1_rest_0 hG hP ?_
  have loop : ∀ (n p : Nat) (f : Int32), p + n = 16 → J l mX1_rest (jZ0 1 G (pI fun z μ' => μ' = μ ∧ z = pkF (rsP (μ.1 60) (μ.1 61)) (fun p => nI (10 * (p / 4) + p % 4)) i n p f)) G 0 0 4 [.ref 57, .int i, .int f, .int (nI p)] [] μ := by
    intro n
    induction n with
    | zero =>
      intro p f hp
      have : p = 16 := by omega
      subst this
      refine b_X1_rest_4 (ψ2 := fun _ _ => True) hG hP (fun _ h => ⟨rfl, ?_⟩) (fun _ h => ⟨rfl, ?_⟩) (fun h => absurd (by decide) h) (fun h => absurd (by decide) h)
      · show -1 = if i = -1 then f else -1; rw [if_neg h]
      · show f = if i = -1 then f else -1; rw [if_pos h]
    | succ n ih =>
      intro p f hp
      have hp16 : p < 16 := by omega
      have hd : nI p / 4 = nI (p / 4) := pk_div (d := 4) (by omega) (by decide) (by decide)
      have hm : nI p - nI p / 4 * 4 = nI (p % 4) := pk_rem (d := 4) (by omega) (by decide) (by decide)
      refine b_X1_rest_4 hG hP (fun h => absurd h (nI_ge (b := 16) hp16 (by decide))) (fun h => absurd h (nI_ge (b := 16) hp16 (by decide))) (fun _ => c_X1_bothRest hG hP hp16) (fun _ => ?_)
      rintro z μ' ⟨rfl, hz⟩
      rcases hz with ⟨rfl, hR⟩ | ⟨rfl, hR⟩
      · rw [pkF_yes hR]
        refine b_X1_rest_15 hG hP (fun h => absurd h (by decide)) (fun _ h => ?_) (fun _ h => ?_)
        · rw [if_neg h, nI_inc]; exact ih (p + 1) (f + 1) (by omega)
        · rw [if_pos h, hm, hd, show (10 : Int32) = nI 10 from rfl, pk_mul, nI_add]; exact ⟨rfl, rfl⟩
      · rw [pkF_no hR]
        refine b_X1_rest_15 hG hP (fun _ => ?_) (fun h => absurd rfl h) (fun h => absurd rfl h)
        rw [nI_inc]; exact ih (p + 1) f (by omega)
  exact loop 16 0 0 rfl
theorem c_X1_nightsUntilBroken (hG : gGG G) {μ : jM} (hP : gPP μ) {t B k : Nat} {T : sT} {Lw : Nat → sLaw} {S : sR} (hf : fcI G μ t T Lw S B) (hk : k < T 0 1) :
    jC0 l mX1_nightsUntilBroken 5 G [.ref 57, .int (nI k)] μ (pI fun z μ' => fcI G μ' t T Lw S B ∧ cO5 (pnI t 59 0) (lnL t) μ μ' ∧ z = untV (brkP T Lw S k)) := by
  refine jC0.of' (ls := [.ref 57, .int (nI k), .null]) rfl rfl rfl (fun _ _ => Nat.le_of_ble_eq_true rfl) ?_
  have hx := hf.1.2.2.1
  have hv := hx.2.2.2.2.2
  have h12 := hv.1.2.1
  obtain ⟨r, hr9, hr⟩ := hf.2.2.1.2.2
  have hBB := hf.2.2.1.2.1
  refine b_X1_nightsUntilBroken_0 hG hP (fc_start hG hP hf) ?_
  rintro μ3 ⟨hP3, hf3, ho3, hr3⟩
  refine b_X1_nightsUntilBroken_4 hG hP3 (fc_enter hG hP3 hf3 hr3 hf.2.2.1.1 ⟨⟨r, hr9, hr⟩, r, hr9, hr⟩) ?_
  rintro μ4 ⟨hS4, ho4⟩
  have ho3' : cO5 (pnI t 59 0) (lnL t) μ μ3 := ho3.mono (fun c hc => Or.inr (Or.inr (Or.inl hc))) (fun c hc => hc.elim)
  refine b_X1_nightsUntilBroken_15 hG (ho4.gPP hP3) ?_
  have loop : ∀ i, i ≤ 200 → ∀ μ1, gPP μ1 → enS G μ1 t 59 T Lw (sNn T Lw (nI (T 0 7)) (S 65) (thN T) i S) (S 65) (nI (T 0 7)) (thN T) (B + i) → cO5 (pnI t 59 0) (lnL t) μ μ1 → (∀ j, j < i → ¬ brkP T Lw S k j = true) → J l mX1_nightsUntilBroken (jZ0 5 G (pI fun z μ' => fcI G μ' t T Lw S B ∧ cO5 (pnI t 59 0) (lnL t) μ μ' ∧ z = untV (brkP T Lw S k))) G 0 0 17 [.ref 57, .int (nI k), .int (nI i)] [] μ1 := by
    have bit : ∀ i, ∀ μ1 : jM, enS G μ1 t 59 T Lw (sNn T Lw (nI (T 0 7)) (S 65) (thN T) i S) (S 65) (nI (T 0 7)) (thN T) (B + i) → (((((μ1.1 12 4) >>> (nI k &&& 31)) &&& 1) = (0)) ↔ ¬ brkP T Lw S k i = true) := by
      intro i μ1 hS
      have hd := hS.2.1 k (by omega)
      rw [nn_c hv hr9 hr] at hd
      rw [sh1_0 (by omega)]
      unfold brkP nnS
      rw [decide_eq_true_iff]
      cases hb : bt (μ1.1 12 4) k
      · rw [hb] at hd; exact ⟨fun _ z => absurd (hd.mpr ⟨hk, z⟩) (by decide), fun _ => rfl⟩
      · rw [hb] at hd; exact ⟨fun z => (by cases z), fun z => absurd (hd.mp rfl).2 z⟩
    refine up_loop 200 ?_ (fun i hi ih => ?_)
    · intro μ1 hP1 hS ho hno
      refine b_X1_nightsUntilBroken_17 (ψ2 := fun _ => True) hG hP1 (fun _ h => ⟨fc_end hf hS ho, ho, ?_⟩) (fun _ h => ⟨fc_end hf hS ho, ho, ?_⟩) (fun h => absurd (by decide) h) (fun h => absurd (by decide) h) (fun h => absurd (by decide) h)
      · have := (bit 200 μ1 hS).mp h
        rw [untV_no (fun j hj => by
          by_cases e : j = 200
          · rw [e]; exact this
          · exact hno j (by omega))]
      · have : brkP T Lw S k 200 = true := Classical.byContradiction (fun z => h ((bit 200 μ1 hS).mpr z))
        rw [untV_at (by decide) this hno]; rfl
    · intro μ1 hP1 hS ho hno
      refine b_X1_nightsUntilBroken_17 hG hP1 (fun h => absurd h (nI_ge (b := 200) hi (by decide))) (fun h => absurd h (nI_ge (b := 200) hi (by decide))) (fun _ _ => c_X10_passNight hG hP1 hS (by omega)) (fun _ h => ?_) (fun _ h => ⟨fc_end hf hS ho, ho, ?_⟩)
      · rintro μ2 ⟨g1, g2, -, -⟩
        refine b_X1_nightsUntilBroken_47 hG (g2.gPP hP1) ?_
        rw [nI_inc]
        refine ih μ2 (g2.gPP hP1) g1 (ho.trans (g2.o5.mono (fun c hc => hc) (fun c hc => hc))) (fun j hj => ?_)
        by_cases e : j = i
        · rw [e]; exact (bit i μ1 hS).mp h
        · exact hno j (by omega)
      · have : brkP T Lw S k i = true := Classical.byContradiction (fun z => h ((bit i μ1 hS).mpr z))
        rw [untV_at (by omega) this hno]
  exact loop 0 (by omega) μ4 (ho4.gPP hP3) hS4 (ho3'.trans ho4) (fun j hj => by omega)
theorem c_X1_nightsUntilCutOff (hG : gGG G) {μ : jM} (hP : gPP μ) {t B a : Nat} {T : sT} {Lw : Nat → sLaw} {S : sR} (hf : fcI G μ t T Lw S B) (ha : a < T 0 2) :
    jC0 l mX1_nightsUntilCutOff 5 G [.ref 57, .int (nI a)] μ (pI fun z μ' => fcI G μ' t T Lw S B ∧ cO5 (pnI t 59 0) (lnL t) μ μ' ∧ z = untV (cutP T Lw S a)) := by
  refine jC0.of' (ls := [.ref 57, .int (nI a), .null]) rfl rfl rfl (fun _ _ => Nat.le_of_ble_eq_true rfl) ?_
  have hx := hf.1.2.2.1
  have hv := hx.2.2.2.2.2
  have h7 := hv.1.2.2.1
  obtain ⟨r, hr9, hr⟩ := hf.2.2.1.2.2
  have hBB := hf.2.2.1.2.1
  refine b_X1_nightsUntilCutOff_0 hG hP (fc_start hG hP hf) ?_
  rintro μ3 ⟨hP3, hf3, ho3, hr3⟩
  refine b_X1_nightsUntilCutOff_4 hG hP3 (fc_enter hG hP3 hf3 hr3 hf.2.2.1.1 ⟨⟨r, hr9, hr⟩, r, hr9, hr⟩) ?_
  rintro μ4 ⟨hS4, ho4⟩
  have ho3' : cO5 (pnI t 59 0) (lnL t) μ μ3 := ho3.mono (fun c hc => Or.inr (Or.inr (Or.inl hc))) (fun c hc => hc.elim)
  refine b_X1_nightsUntilCutOff_15 hG (ho4.gPP hP3) ?_
  have same : ∀ i, sDs T Lw (nI (T 0 7)) (S 65) (sNn T Lw (nI (T 0 7)) (S 65) (thN T) i S) a (T 5 a) = sDs T Lw (nI (T 0 7)) (-1) (nnS T Lw i S) a (T 5 a) := fun i => by
    rw [nn_c hv hr9 hr]
    unfold nnS
    rw [sDs_od (od_plain hr9 hr _ (sNn_65 hv i))]
  have cut : ∀ i, (¬ cutP T Lw S a i = true) ↔ sDs T Lw (nI (T 0 7)) (S 65) (sNn T Lw (nI (T 0 7)) (S 65) (thN T) i S) a (T 5 a) < INF := fun i => by
    rw [same i]; unfold cutP; rw [decide_eq_true_iff]; exact Classical.not_not
  have loop : ∀ i, i ≤ 200 → ∀ μ1, gPP μ1 → enS G μ1 t 59 T Lw (sNn T Lw (nI (T 0 7)) (S 65) (thN T) i S) (S 65) (nI (T 0 7)) (thN T) (B + i) → cO5 (pnI t 59 0) (lnL t) μ μ1 → (∀ j, j < i → ¬ cutP T Lw S a j = true) → J l mX1_nightsUntilCutOff (jZ0 5 G (pI fun z μ' => fcI G μ' t T Lw S B ∧ cO5 (pnI t 59 0) (lnL t) μ μ' ∧ z = untV (cutP T Lw S a))) G 0 0 17 [.ref 57, .int (nI a), .int (nI i)] [] μ1 := by
    refine up_loop 200 ?_ (fun i hi ih => ?_)
    · intro μ1 hP1 hS ho hno
      refine b_X1_nightsUntilCutOff_17 (ψ1 := fun _ _ => True) hG hP1 (fun _ => c_X10_findWay hG hP1 hS ha) (fun _ => ?_) (fun h => absurd (by decide) h) (fun h => absurd (by decide) h)
      rintro z μ2 ⟨rfl, g2, g3, -, -⟩
      have ho2 : cO5 (pnI t 59 0) (lnL t) μ μ2 := ho.trans (g2.o5.mono (fun c hc => fn_pn (by omega) hc) (fun c hc => Or.inr hc))
      refine b_X1_nightsUntilCutOff_58 hG (g2.gPP hP1) (fun h => ⟨fc_end hf g3 ho2, ho2, ?_⟩) (fun h => ⟨fc_end hf g3 ho2, ho2, ?_⟩)
      · have : cutP T Lw S a 200 = true := Classical.byContradiction (fun z => by rw [if_pos ((cut 200).mp z)] at h; exact absurd h (by decide))
        rw [untV_at (by decide) this hno]; rfl
      · have : ¬ cutP T Lw S a 200 = true := (cut 200).mpr (Classical.byContradiction (fun z => by rw [if_neg z] at h; exact h rfl))
        rw [untV_no (fun j hj => by
          by_cases e : j = 200
          · rw [e]; exact this
          · exact hno j (by omega))]
    · intro μ1 hP1 hS ho hno
      refine b_X1_nightsUntilCutOff_17 (ψ0 := fun _ _ => True) hG hP1 (fun h => absurd h (nI_ge (b := 200) hi (by decide))) (fun h => absurd h (nI_ge (b := 200) hi (by decide))) (fun _ => c_X10_findWay hG hP1 hS ha) (fun _ => ?_)
      rintro z μ2 ⟨rfl, g2, g3, -, -⟩
      have ho2 : cO5 (pnI t 59 0) (lnL t) μ μ2 := ho.trans (g2.o5.mono (fun c hc => fn_pn (by omega) hc) (fun c hc => Or.inr hc))
      have hP2 := g2.gPP hP1
      refine b_X1_nightsUntilCutOff_32 hG hP2 (fun _ => c_X10_passNight hG hP2 g3 (by omega)) (fun h => ?_) (fun h => ⟨fc_end hf g3 ho2, ho2, ?_⟩)
      · rintro μ4 ⟨k1, k2, -, -⟩
        refine b_X1_nightsUntilCutOff_44 hG (k2.gPP hP2) ?_
        rw [nI_inc]
        refine ih μ4 (k2.gPP hP2) k1 (ho2.trans (k2.o5.mono (fun c hc => hc) (fun c hc => hc))) (fun j hj => ?_)
        by_cases e : j = i
        · rw [e]; exact (cut i).mpr (Classical.byContradiction (fun z => by rw [if_neg z] at h; exact h rfl))
        · exact hno j (by omega)
      · have : cutP T Lw S a i = true := Classical.byContradiction (fun z => by rw [if_pos ((cut i).mp z)] at h; exact absurd h (by decide))
        rw [untV_at (by omega) this hno]
  exact loop 0 (by omega) μ4 (ho4.gPP hP3) hS4 (ho3'.trans ho4) (fun j hj => by omega)
theorem c_X1_costWithoutGates (hG : gGG G) {μ : jM} (hP : gPP μ) {t B a : Nat} {T : sT} {Lw : Nat → sLaw} {S : sR} (hf : fcI G μ t T Lw S B) (ha : a < T 0 2) :
    jC0 l mX1_costWithoutGates 4 G [.ref 57, .int (nI a)] μ (pI fun z μ' => fcI G μ' t T Lw S B ∧ cO5 (pnI t 59 0) (lnL t) μ μ' ∧ z = nI (sDs T Lw (nI (T 0 7)) (-1) (upd S 64 0) a (T 5 a))) := by
  refine jC0.of' (ls := [.ref 57, .int (nI a)]) rfl rfl rfl (fun _ _ => Nat.le_of_ble_eq_true rfl) ?_
  have hx := hf.1.2.2.1
  have hv := hx.2.2.2.2.2
  have h7 := hv.1.2.2.1
  obtain ⟨r, hr9, hr⟩ := hf.2.2.1.2.2
  refine b_X1_costWithoutGates_0 hG hP (fc_start hG hP hf) ?_
  rintro μ3 ⟨hP3, hf3, ho3, hr3⟩
  have hr4 : (wI μ3 59 4 0).1 59 = cRow (upd S 64 0) (S 65) (nI (T 0 7)) (thN T) := by
    rw [wI_eq, hr3, cRow_upd (i := 64) (by decide)]; rfl
  have u65 : upd S 64 0 65 = S 65 := upd_ne (by decide)
  refine b_X1_costWithoutGates_4 hG hP3 (fc_enter (μ := wI μ3 59 4 0) hG hP3 (fc_59 hf3 (by decide)) hr4 (rgS_64 hf.2.2.1.1) ⟨⟨r, hr9, by rw [u65]; exact hr⟩, r, hr9, hr⟩) ?_
  rintro μ4 ⟨hS4, ho4⟩
  have hP4 := ho4.gPP (μ := wI μ3 59 4 0) hP3
  have ho34 : cO5 (pnI t 59 0) (lnL t) μ (wI μ3 59 4 0) := (ho3.mono (fun c hc => Or.inr (Or.inr (Or.inl hc))) (fun c hc => hc.elim)).trans ((cOff_wI (PI := fun c => c = 59) (PL := fun _ => False) rfl).o5.mono (fun c hc => Or.inr (Or.inr (Or.inl hc))) (fun c hc => hc.elim))
  refine b_X1_costWithoutGates_25 hG hP4 (c_X10_findWay hG hP4 hS4 ha) ?_
  rintro z μ5 ⟨rfl, g2, g3, -, g5⟩
  have hP5 := g2.gPP hP4
  have ho5 : cO5 (pnI t 59 0) (lnL t) μ μ5 := (ho34.trans ho4).trans (g2.o5.mono (fun c hc => fn_pn (by omega) hc) (fun c hc => Or.inr hc))
  refine b_X1_costWithoutGates_33 (y := 17 + 5 * a) hG hP5 (tO_way hG hP5 (by omega)) (vp_in_nI (by omega) (by decide)) (by rw [nI_clamp (by omega)]; exact way_ref hP5 (by omega)) ⟨fc_end hf g3 ho5, ho5, ?_⟩
  rw [g5.1]
  have hod := od_plain hr9 (S := upd S 64 0) (by rw [u65]; exact hr) (upd S 64 0) rfl
  rw [u65] at hod
  have := sDs_od (T := T) (Lw := Lw) (S := upd S 64 0) (lots := nI (T 0 7)) (a := a) hod
  rw [← this]; rfl
end ForeC
