/-! ANSWERS, and the reference gives them: forecasts -/
noncomputable def rStop (T : sT) (Lw : Nat → sLaw) (S : sR) (x : Int32) : Int32 := gIf x 2 (fun w => if w = 0 then (stV T Lw S).1 else (stV T Lw S).2)
noncomputable def rPut (T : sT) (Lw : Nat → sLaw) (S : sR) (x y z : Int32) : Int32 := gIf x 4 (fun g => if g = 0 then -1 else gIf y 10 (fun n => if n = 0 then -1 else gIf z 2 (fun w => if T 0 1 < g then -2 else if w = 0 then (kmF (putF T Lw S n) (putP g) (2 ^ T 0 1)).1 else (kmF (putF T Lw S n) (putP g) (2 ^ T 0 1)).2)))
noncomputable def rBusiest (T : sT) (Lw : Nat → sLaw) (S : sR) (x y : Int32) : Int32 := gIf x 61 (fun n => gIf y 2 (fun w => if T 0 1 = 0 then -2 else if w = 0 then (kmF (busF T Lw S n) allP (T 0 1)).2 else (kmF (busF T Lw S n) allP (T 0 1)).1))
noncomputable def rBest (T : sT) (Lw : Nat → sLaw) (S : sR) (x y : Int32) : Int32 := gIf x 31 (fun n => if n = 0 then -1 else gIf y 2 (fun w => if w = 0 then (kmF (bstF T Lw S n) allP 10).2 else (kmF (bstF T Lw S n) allP 10).1))
theorem isN_1 {x a b : Int32} {n : Nat} (hn : n < 2 ^ 31) (ha : a = 1) (hb : b = nI n) : (a ≤ x ∧ x ≤ b) ↔ ∃ k, k < n + 1 ∧ k ≠ 0 ∧ x = nI k := by
  subst ha
  subst hb
  have e1 : (1 : Int32).toInt = 1 := rfl
  constructor
  · rintro ⟨h1, h2⟩
    rw [i32_le, e1] at h1
    rw [i32_le, nI_toInt hn] at h2
    obtain ⟨m, hm⟩ := Int.eq_ofNat_of_zero_le (show 0 ≤ x.toInt by omega)
    refine ⟨m, by omega, by omega, i32_ext ?_⟩
    rw [nI_toInt (by omega)]; exact hm
  · rintro ⟨k, hk, h0, rfl⟩
    rw [i32_le, i32_le, e1, nI_toInt hn, nI_toInt (by omega)]; omega
/-- an answer that wants a number from 1 on -/
theorem gIf_no1 {x : Int32} {n : Nat} {f : Nat → Int32} (hn : n ≤ 2 ^ 31) (h : ¬ ∃ k, k < n ∧ k ≠ 0 ∧ x = nI k) : gIf x n (fun k => if k = 0 then -1 else f k) = -1 := by
  by_cases hx : isN x n
  · obtain ⟨k, hk, rfl⟩ := hx
    rw [gIf_in hk hn, if_pos (Classical.byContradiction (fun z => h ⟨k, hk, z, rfl⟩))]
  · exact gIf_out hx
theorem gIf_in1 {n k : Nat} {f : Nat → Int32} (hk : k < n) (hn : n ≤ 2 ^ 31) (h0 : k ≠ 0) : gIf (nI k) n (fun k => if k = 0 then -1 else f k) = f k := by
  rw [gIf_in hk hn, if_neg h0]
theorem sFr_bt {T : sT} {Lw : Nat → sLaw} {lots od : Int32} {S : sR} : ∀ n, n ≤ 7 → ∀ i, i < 32 → (bt (sFr T Lw lots od S n) i = true ↔ (i < n ∧ sFree T Lw lots od S i)) := by
  intro n
  induction n with
  | zero => intro _ i hi; rw [show sFr T Lw lots od S 0 = 0 from rfl, b_0]; exact ⟨fun z => (by cases z), fun z => absurd z.1 (by omega)⟩
  | succ n ih =>
    intro hn i hi
    have h0 := ih (by omega) i hi
    by_cases hf : sFree T Lw lots od S n
    · rw [show sFr T Lw lots od S (n + 1) = sFr T Lw lots od S n ||| (1 <<< (nI n &&& 31)) from if_pos hf, b_or, b_one (by omega) hi, Bool.or_eq_true, h0, decide_eq_true_iff]
      constructor
      · rintro (⟨h1, h2⟩ | rfl)
        · exact ⟨by omega, h2⟩
        · exact ⟨by omega, hf⟩
      · rintro ⟨h1, h2⟩
        by_cases e : i = n
        · exact Or.inr e
        · exact Or.inl ⟨by omega, h2⟩
    · rw [show sFr T Lw lots od S (n + 1) = sFr T Lw lots od S n from if_neg hf, h0]
      constructor
      · rintro ⟨h1, h2⟩; exact ⟨by omega, h2⟩
      · rintro ⟨h1, h2⟩
        by_cases e : i = n
        · rw [e] at h2; exact absurd h2 hf
        · exact ⟨by omega, h2⟩
theorem sFr_0 {T : sT} {Lw : Nat → sLaw} (h7 : T 0 2 ≤ 7) {lots od : Int32} {S : sR} : sFr T Lw lots od S (T 0 2) = 0 ↔ ∀ a, a < T 0 2 → ¬ sFree T Lw lots od S a := by
  rw [b_0x]
  constructor
  · intro h a ha hf
    have := (sFr_bt (T := T) (Lw := Lw) (lots := lots) (od := od) (S := S) _ h7 a (by omega)).mpr ⟨ha, hf⟩
    rw [h a (by omega)] at this; cases this
  · intro h i hi
    cases hb : bt (sFr T Lw lots od S (T 0 2)) i
    · rfl
    · have := (sFr_bt _ h7 i hi).mp hb; exact absurd this.2 (h i this.1)
/-- the most, as the reference seeks it -/
def pmF (f : Nat → Int32) (P : Nat → Bool) : Nat → Int32 × Int32
  | 0 => (-2, -2)
  | n + 1 => if P n = true ∧ ((pmF f P n).2 < 0 ∨ (pmF f P n).1 < f n) then (f n, nI n) else pmF f P n
theorem pmF_no {f : Nat → Int32} {P : Nat → Bool} {n : Nat} (h : ¬ (P n = true ∧ ((pmF f P n).2 < 0 ∨ (pmF f P n).1 < f n))) : pmF f P (n + 1) = pmF f P n := if_neg h
theorem pmF_yes {f : Nat → Int32} {P : Nat → Bool} {n : Nat} (h : P n = true ∧ ((pmF f P n).2 < 0 ∨ (pmF f P n).1 < f n)) : pmF f P (n + 1) = (f n, nI n) := if_pos h
theorem pm_km {f : Nat → Int32} {P : Nat → Bool} {N : Nat} (hN : N < 2 ^ 31) (hf : ∀ s, s < N → P s = true → 0 ≤ f s) : ∀ n, n ≤ N → ((∀ s, s < n → ¬ P s = true) ∧ pmF f P n = (-2, -2) ∧ kmF f P n = (-1, 0)) ∨ ((∃ s, s < n ∧ P s = true) ∧ pmF f P n = kmF f P n ∧ ¬ (pmF f P n).2 < 0) := by
  intro n
  induction n with
  | zero => intro _; exact Or.inl ⟨fun s hs => by omega, rfl, rfl⟩
  | succ n ih =>
    intro hn
    have hpos : ¬ nI n < 0 := fun z => by
      have e0 : (0 : Int32).toInt = 0 := rfl
      rw [i32_lt, e0, nI_toInt (by omega)] at z; omega
    rcases ih (by omega) with ⟨h1, h2, h3⟩ | ⟨h1, h2, h3⟩
    · by_cases hP : P n = true
      · have hfn := hf n (by omega) hP
        have hm1 : (-1 : Int32) < f n := by
          have e0 : (0 : Int32).toInt = 0 := rfl
          have e1 : (-1 : Int32).toInt = -1 := rfl
          rw [i32_le, e0] at hfn
          rw [i32_lt, e1]; omega
        refine Or.inr ⟨⟨n, by omega, hP⟩, ?_, ?_⟩
        · rw [kmF_yes ⟨hP, by rw [h3]; exact hm1⟩, pmF_yes ⟨hP, Or.inl (by rw [h2]; decide)⟩]
        · rw [pmF_yes ⟨hP, Or.inl (by rw [h2]; decide)⟩]; exact hpos
      · refine Or.inl ⟨fun s hs => ?_, ?_, ?_⟩
        · by_cases e : s = n
          · rw [e]; exact hP
          · exact h1 s (by omega)
        · rw [pmF_no (fun z => hP z.1)]; exact h2
        · rw [kmF_no (fun z => hP z.1)]; exact h3
    · obtain ⟨s, hs, hs2⟩ := h1
      refine Or.inr ⟨⟨s, by omega, hs2⟩, ?_, ?_⟩
      · by_cases hc : P n = true ∧ (kmF f P n).1 < f n
        · rw [kmF_yes hc, pmF_yes ⟨hc.1, Or.inr (by rw [h2]; exact hc.2)⟩]
        · rw [kmF_no hc, pmF_no (fun z => hc ⟨z.1, by rcases z.2 with z | z; exact absurd z h3; rw [h2] at z; exact z⟩)]; exact h2
      · by_cases hc : P n = true ∧ ((pmF f P n).2 < 0 ∨ (pmF f P n).1 < f n)
        · rw [pmF_yes hc]; exact hpos
        · rw [pmF_no hc]; exact h3
theorem nI_0le (n : Nat) (hn : n < 2 ^ 31) : 0 ≤ nI n := by
  have e0 : (0 : Int32).toInt = 0 := rfl
  rw [i32_le, e0, nI_toInt hn]; omega
theorem till_pos {T : sT} {Lw : Nat → sLaw} (hv : vT T Lw) {lots od th : Int32} {S : sR} {n : Nat} {x : Int32} (hn : n ≤ 60) (hx : S 66 = x) : 0 ≤ sNn T Lw lots od th n S 66 - x := by
  obtain ⟨g, hg, e⟩ := (sNn_grow hv (lots := lots) (od := od) (th := th) (S := S) n).2.2.1
  rw [e, hx, Int32.sub_eq_add_neg, show x + nI g + -x = nI g + (x + -x) by ac_rfl, Int32.add_right_neg, Int32.add_zero]
  exact nI_0le g (by omega)
theorem wear_pos {T : sT} {Lw : Nat → sLaw} (hv : vT T Lw) {lots od th : Int32} {S : sR} {n k B : Nat} (hn : n ≤ 60) (hk : k < 12) (hg : rgS S B) : 0 ≤ sNn T Lw lots od th n S k - S k := by
  obtain ⟨c, d, h⟩ := (sNn_grow hv (lots := lots) (od := od) (th := th) (S := S) n).2.2.2.2.1
  obtain ⟨w, hw, e⟩ := hg.2 k (by omega)
  obtain ⟨h1, -, h3, -⟩ := h k hk
  rw [h3 w e, e, ← nI_add, Int32.sub_eq_add_neg, show nI w + nI (c k) + -nI w = nI (c k) + (nI w + -nI w) by ac_rfl, Int32.add_right_neg, Int32.add_zero]
  exact nI_0le _ (by omega)
/-- some set has so many GATES -/
theorem some_set {g n : Nat} (h : g ≤ n) (hn : n ≤ 12) (hg : g ≤ 3) : ∃ s, s < 2 ^ n ∧ putP g s = true := by
  refine ⟨2 ^ g - 1, ?_, ?_⟩
  · have h1 : 2 ^ g ≤ 2 ^ n := Nat.pow_le_pow_right (by decide) h
    have := Nat.two_pow_pos g
    omega
  · have : g = 0 ∨ g = 1 ∨ g = 2 ∨ g = 3 := by omega
    rcases this with rfl | rfl | rfl | rfl <;> decide
theorem no_set {g n : Nat} (h : n < g) (hn : n ≤ 12) (hg : g ≤ 12) : ∀ s, s < 2 ^ n → ¬ putP g s = true := by
  intro s hs hp
  have := of_decide_eq_true hp
  rw [sBits_nI 12 (by decide), pcT_12 hn hs] at this
  have h2 := (nI_eq (by have := pcT_le (y := s) n; omega) (by omega)).mp this
  have := pcT_le (y := s) n
  omega
section ModR
variable {l : Launch} {G : jG}
theorem c_X12_isFree (hG : gMM G) {μ : jM} (hP : gNN μ) {v a : Nat} {T : sT} {Lw : Nat → sLaw} {S E : sR} {lots od : Int32} (hm : mNow μ v T Lw S) (hr : μ.1 152 = E) (hlo : μ.1 112 58 = lots) (hod : μ.1 112 60 = od) (hrt : rtOK E od) (ha : a < T 0 2) : jC0 l mX12_isFree 7 G [.ref 112, .int (nI a)] μ (pI fun z μ' => mQ μ μ' ∧ mNow μ' v T Lw S ∧ gNN μ' ∧ mOff [149, 150, 153, 154, 155, 156] [55, 65] μ μ' ∧ ((z = 1 ∧ sFree T Lw lots od E a) ∨ (z = 0 ∧ ¬ sFree T Lw lots od E a))) := by
  refine jC0.of' (ls := [.ref 112, .int (nI a), .null]) rfl rfl rfl (fun _ _ => Nat.le_of_ble_eq_true rfl) ?_
  have hv := hm.1.2.2.2.2.2
  refine b_X12_isFree_0 hG hP (q_find hG hP hm hr hlo hod hrt ha) ?_
  rintro z μ1 ⟨hq, hm1, hP1, ho, -, -, ⟨rfl, hI, hwy⟩ | ⟨rfl, hI⟩⟩
  · refine b_X12_isFree_5 hG hP1 (fun _ => ?_) (fun h => absurd h (by decide))
    have hWi := sWl_in hv hI
    have hr1 : μ1.1 152 = E := by rw [ho.c 152 (by decide) (by decide)]; exact hr
    obtain ⟨k1, k2⟩ := hwy
    have key : ∀ (W2 W1 : List Nat), sWl T Lw lots od E a = W1 ++ W2 → (∀ k ∈ W1, ¬ sGt E k) → J l mX12_isFree (jZ0 7 G (pI fun z μ' => mQ μ μ' ∧ mNow μ' v T Lw S ∧ gNN μ' ∧ mOff [149, 150, 153, 154, 155, 156] [55, 65] μ μ' ∧ ((z = 1 ∧ sFree T Lw lots od E a) ∨ (z = 0 ∧ ¬ sFree T Lw lots od E a)))) G 0 0 12 [.ref 112, .null, .int (nI W1.length)] [] μ1 := by
      intro W2
      induction W2 with
      | nil =>
        intro W1 hWW hno
        rw [List.append_nil] at hWW
        have hle : μ1.1 112 65 ≤ nI W1.length := by rw [k1, hWW]; exact nI_le (Nat.le_refl _) (by rw [← hWW]; omega)
        exact b_X12_isFree_12 (ψ1 := fun _ _ => True) hG hP1 (fun _ => ⟨hq, hm1, hP1, ho, Or.inl ⟨rfl, hI, by rw [hWW]; exact hno⟩⟩) (fun h => absurd hle h) (fun h => absurd hle h) (fun h => absurd hle h)
      | cons k W2 ih =>
        intro W1 hWW hno
        have hlen : W1.length < (sWl T Lw lots od E a).length := by rw [hWW]; simp
        have hgt : ¬ μ1.1 112 65 ≤ nI W1.length := by rw [k1]; exact nI_ge hlen (by omega)
        have hk3 : μ1.1 156 (nI W1.length).toNatClampNeg = nI k := by
          rw [nI_clamp (by omega)]; exact k2 _ _ (by rw [hWW]; simp)
        have hkm : k ∈ sWl T Lw lots od E a := by rw [hWW]; simp
        refine b_X12_isFree_12 hG hP1 (fun h => absurd h hgt) (fun _ => vp_in_nI (by omega) (by decide)) (fun _ => by rw [hk3]; exact c_X12_hasGate hG hP1 k) (fun _ => ?_)
        rintro z μ2 ⟨rfl, hz⟩
        rw [hr1] at hz
        rcases hz with ⟨rfl, hg⟩ | ⟨rfl, hg⟩
        · exact b_X12_isFree_30 hG hP1 (fun h => absurd h (by decide)) (fun _ => ⟨hq, hm1, hP1, ho, Or.inr ⟨rfl, fun z => z.2 k hkm hg⟩⟩)
        · refine b_X12_isFree_30 hG hP1 (fun _ => ?_) (fun h => absurd rfl h)
          rw [nI_inc]
          have := ih (W1 ++ [k]) (by rw [hWW]; simp) (fun j hj => by
            rcases List.mem_append.mp hj with h | h
            · exact hno j h
            · rw [List.mem_singleton.mp h]; exact hg)
          rw [show (W1 ++ [k]).length = W1.length + 1 by simp] at this
          exact this
    exact key _ [] rfl (fun k hk => by cases hk)
  · exact b_X12_isFree_5 hG hP1 (fun h => absurd rfl h) (fun _ => ⟨hq, hm1, hP1, ho, Or.inr ⟨rfl, fun z => hI z.1⟩⟩)
theorem c_X12_freeNow (hG : gMM G) {μ : jM} (hP : gNN μ) {v : Nat} {T : sT} {Lw : Nat → sLaw} {S E : sR} {lots od : Int32} (hm : mNow μ v T Lw S) (hr : μ.1 152 = E) (hlo : μ.1 112 58 = lots) (hod : μ.1 112 60 = od) (hrt : rtOK E od) : jC0 l mX12_freeNow 8 G [.ref 112] μ (pI fun z μ' => mQ μ μ' ∧ mNow μ' v T Lw S ∧ gNN μ' ∧ mOff [149, 150, 153, 154, 155, 156] [55, 65] μ μ' ∧ z = sFr T Lw lots od E (T 0 2)) := by
  refine jC0.of' (ls := [.ref 112, .null, .null]) rfl rfl rfl (fun _ _ => Nat.le_of_ble_eq_true rfl) ?_
  have h7 := hm.1.2.2.2.2.2.1.2.2.1
  refine b_X12_freeNow_0 hG hP ?_
  have loop : ∀ i, i ≤ T 0 2 → ∀ μ1, mQ μ μ1 → mNow μ1 v T Lw S → gNN μ1 → mOff [149, 150, 153, 154, 155, 156] [55, 65] μ μ1 → J l mX12_freeNow (jZ0 8 G (pI fun z μ' => mQ μ μ' ∧ mNow μ' v T Lw S ∧ gNN μ' ∧ mOff [149, 150, 153, 154, 155, 156] [55, 65] μ μ' ∧ z = sFr T Lw lots od E (T 0 2))) G 0 0 4 [.ref 112, .int (sFr T Lw lots od E i), .int (nI i)] [] μ1 := by
    refine up_loop (T 0 2) ?_ (fun i hi ih => ?_)
    · intro μ1 hq hm1 hP1 ho
      have e : μ1.1 129 (μ1.1 112 18).toNatClampNeg = nI (T 0 2) := by rw [ix_cl hm1.1.1.2 (by have := hm1.1.1.1; omega)]; exact hm1.1.2.1.2.2.1
      have hle : μ1.1 129 (μ1.1 112 18).toNatClampNeg ≤ nI (T 0 2) := by rw [e]; exact nI_le (Nat.le_refl _) (by omega)
      exact b_X12_freeNow_4 (ψ1 := fun _ _ => True) hG hP1 (ix_in hm1.1.1.2 hm1.1.1.1 (by decide)) (fun _ => ⟨hq, hm1, hP1, ho, rfl⟩) (fun h => absurd hle h) (fun h => absurd hle h)
    · intro μ1 hq hm1 hP1 ho
      have e : μ1.1 129 (μ1.1 112 18).toNatClampNeg = nI (T 0 2) := by rw [ix_cl hm1.1.1.2 (by have := hm1.1.1.1; omega)]; exact hm1.1.2.1.2.2.1
      have hgt : ¬ μ1.1 129 (μ1.1 112 18).toNatClampNeg ≤ nI i := by rw [e]; exact nI_ge hi (by omega)
      refine b_X12_freeNow_4 hG hP1 (ix_in hm1.1.1.2 hm1.1.1.1 (by decide)) (fun h => absurd h hgt) (fun _ => c_X12_isFree (E := E) (lots := lots) (od := od) hG hP1 hm1 (by rw [ho.c 152 (by decide) (by decide)]; exact hr) (by rw [ho.f 58 (by decide)]; exact hlo) (by rw [ho.f 60 (by decide)]; exact hod) hrt hi) (fun _ => ?_)
      rintro z μ2 ⟨hq2, hm2, hP2, ho2, hz⟩
      have hnext := ih μ2 (hq.trans hq2) hm2 hP2 (ho.trans ho2)
      rcases hz with ⟨rfl, hf⟩ | ⟨rfl, hf⟩
      · refine b_X12_freeNow_22 hG hP2 (fun h => absurd h (by decide)) (fun _ => ?_)
        rw [nI_inc]
        rw [show sFr T Lw lots od E (i + 1) = sFr T Lw lots od E i ||| (1 <<< (nI i &&& 31)) from if_pos hf] at hnext
        exact hnext
      · refine b_X12_freeNow_22 hG hP2 (fun _ => ?_) (fun h => absurd rfl h)
        rw [nI_inc]
        rw [show sFr T Lw lots od E (i + 1) = sFr T Lw lots od E i from if_neg hf] at hnext
        exact hnext
  exact loop 0 (Nat.zero_le _) μ (mQ.refl hm.2.2.1) hm hP mOff.refl
theorem c_X12_free (hG : gMM G) {μ : jM} (hP : gNN μ) {v : Nat} {T : sT} {Lw : Nat → sLaw} {S : sR} (hm : mNow μ v T Lw S) : jC0 l mX12_free 9 G [.ref 112] μ (pI fun z μ' => z = rFree T Lw S ∧ mQ μ μ') := by
  refine jC0.of' (ls := [.ref 112]) rfl rfl rfl (fun _ _ => Nat.le_of_ble_eq_true rfl) ?_
  refine b_X12_free_0 hG hP (c_X12_copies hG hP hm) ?_
  rintro μ1 ⟨hq, hm1, ⟨hr, hlo, hth, hod⟩, hP1, -⟩
  refine b_X12_free_4 hG hP1 (c_X12_freeNow hG hP1 hm1 hr hlo hod (rt_ok hm.2.2.2.2)) ?_
  rintro z μ2 ⟨hq2, -, hP2, -, rfl⟩
  exact b_X12_free_8 hG hP2 ⟨rfl, hq.trans hq2⟩
theorem c_X12_tonight (hG : gMM G) {μ : jM} (hP : gNN μ) {v : Nat} {T : sT} {Lw : Nat → sLaw} {S : sR} (hm : mNow μ v T Lw S) (x : Int32) : jC0 l mX12_tonight 8 G [.ref 112, .int x] μ (pI fun z μ' => z = rTonight T Lw S x ∧ mQ μ μ') := by
  refine jC0.of' (ls := [.ref 112, .int x]) rfl rfl rfl (fun _ _ => Nat.le_of_ble_eq_true rfl) ?_
  refine b_X12_tonight_0 hG hP (c_X12_inN hG hP x (n := 2) rfl (by decide)) ?_
  rintro z μ1 ⟨rfl, ⟨rfl, hx⟩ | ⟨rfl, hx⟩⟩
  · obtain ⟨w, hw, rfl⟩ := hx
    rw [show rTonight T Lw S (nI w) = tnV T Lw S w from gIf_in hw (by decide)]
    refine b_X12_tonight_6 hG hP (fun _ => c_X12_copies hG hP hm) (fun _ => ?_) (fun h => absurd h (by decide))
    rintro μ2 ⟨hq2, hm2, ⟨hr, hlo, hth, hod⟩, hP2, -⟩
    refine b_X12_tonight_15 hG hP2 (q_night hG hP2 hm2 hr hm.2.2.2.1 hod (rt_ok hm.2.2.2.2)) ?_
    rintro μ3 ⟨hq3, hm3, hP3, -, hr3⟩
    rw [hlo, hth] at hr3
    have hr3' : μ3.1 152 = nnS T Lw 1 S := hr3
    have e151 : μ3.1 151 = S := hm3.2.1
    have w4 : (nI w = 0 ↔ w = 0) ∧ (nI w = 1 ↔ w = 1) := ⟨nI_eq (b := 0) (by omega) (by decide), nI_eq (b := 1) (by omega) (by decide)⟩
    refine b_X12_tonight_19 hG hP3 (fun _ _ => c_X12_moreIn hG hP3 (c := 12) (m := 12) (by decide) rfl rfl) (fun h0 h1 => ?_) (fun _ _ => c_X12_moreIn hG hP3 (c := 43) (m := 7) (by decide) rfl rfl) (fun h0 h1 => ?_) (fun h0 => ⟨?_, hq2.trans hq3⟩)
    · rintro z μ4 ⟨rfl, rfl⟩
      refine b_X12_tonight_65 hG hP3 ⟨?_, hq2.trans hq3⟩
      rw [hr3', e151, tnV, if_neg (fun z => h0 (w4.1.mpr z)), if_neg (fun z => h1 (w4.2.mpr z))]
    · rintro z μ4 ⟨rfl, rfl⟩
      refine b_X12_tonight_54 hG hP3 ⟨?_, hq2.trans hq3⟩
      rw [hr3', e151, tnV, if_neg (fun z => h0 (w4.1.mpr z)), if_pos (w4.2.mp h1)]
    · rw [hr3', e151, tnV, if_pos (w4.1.mp h0)]
  · exact b_X12_tonight_6 (ψ0 := fun _ => True) hG hP (fun h => absurd rfl h) (fun h => absurd rfl h) (fun _ => ⟨(gIf_out hx).symm, mQ.refl hm.2.2.1⟩)
theorem c_X12_pays (hG : gMM G) {μ : jM} (hP : gNN μ) {v : Nat} {T : sT} {Lw : Nat → sLaw} {S : sR} (hm : mNow μ v T Lw S) (x y : Int32) : jC0 l mX12_pays 9 G [.ref 112, .int x, .int y] μ (pI fun z μ' => z = rPays T Lw S x y ∧ mQ μ μ') := by
  refine jC0.of' (ls := [.ref 112, .int x, .int y]) rfl rfl rfl (fun _ _ => Nat.le_of_ble_eq_true rfl) ?_
  have h7 := hm.1.2.2.2.2.2.1.2.2.1
  refine b_X12_pays_0 hG hP (c_X12_isGhost hG hP hm.1 x) ?_
  rintro z μ1 ⟨rfl, ⟨rfl, hx⟩ | ⟨rfl, hx⟩⟩
  · obtain ⟨a, ha, rfl⟩ := hx
    rw [show rPays T Lw S (nI a) y = _ from gIf_in ha (by omega)]
    refine b_X12_pays_5 hG hP (fun h => absurd h (by decide)) (fun _ => c_X12_isLong hG hP y) (fun _ => ?_)
    rintro z μ2 ⟨rfl, ⟨rfl, hy⟩ | ⟨rfl, hy⟩⟩
    · obtain ⟨n, hn, rfl⟩ := hy
      rw [gIf_in hn (by decide)]
      refine b_X12_pays_12 hG hP (fun _ => c_X12_copies hG hP hm) (fun _ => ?_) (fun h => absurd h (by decide))
      rintro μ3 ⟨hq3, hm3, ⟨hr, hlo, hth, hod⟩, hP3, -⟩
      refine b_X12_pays_21 hG hP3 (q_goes hG hP3 hm3 hr hm.2.2.2.1 hod (rt_ok hm.2.2.2.2) (by omega)) ?_
      rintro μ4 ⟨hq4, hm4, hP4, -, hr4⟩
      rw [hlo, hth] at hr4
      have e : (36 : Int32) + nI a = nI (36 + a) := nI_add 36 a
      refine b_X12_pays_26 hG hP4 (by rw [e]; exact vp_in_nI (by omega) (by decide)) ⟨?_, hq3.trans hq4⟩
      rw [e, nI_clamp (by omega), hr4, hm4.2.1]; rfl
    · exact b_X12_pays_12 (ψ0 := fun _ => True) hG hP (fun h => absurd rfl h) (fun h => absurd rfl h) (fun _ => ⟨(gIf_out hy).symm, mQ.refl hm.2.2.1⟩)
  · exact b_X12_pays_5 (ψ1 := fun _ _ => True) hG hP (fun _ => ⟨(gIf_out hx).symm, mQ.refl hm.2.2.1⟩) (fun h => absurd rfl h) (fun h => absurd rfl h)
theorem c_X12_seen (hG : gMM G) {μ : jM} (hP : gNN μ) {v : Nat} {T : sT} {Lw : Nat → sLaw} {S : sR} (hm : mNow μ v T Lw S) (x y : Int32) : jC0 l mX12_seen 9 G [.ref 112, .int x, .int y] μ (pI fun z μ' => z = rSeen T Lw S x y ∧ mQ μ μ') := by
  refine jC0.of' (ls := [.ref 112, .int x, .int y]) rfl rfl rfl (fun _ _ => Nat.le_of_ble_eq_true rfl) ?_
  have h12 := hm.1.2.2.2.2.2.1.2.1
  refine b_X12_seen_0 hG hP (c_X12_isRoad hG hP hm.1 x) ?_
  rintro z μ1 ⟨rfl, ⟨rfl, hx⟩ | ⟨rfl, hx⟩⟩
  · obtain ⟨a, ha, rfl⟩ := hx
    rw [show rSeen T Lw S (nI a) y = _ from gIf_in ha (by omega)]
    refine b_X12_seen_5 hG hP (fun h => absurd h (by decide)) (fun _ => c_X12_isLong hG hP y) (fun _ => ?_)
    rintro z μ2 ⟨rfl, ⟨rfl, hy⟩ | ⟨rfl, hy⟩⟩
    · obtain ⟨n, hn, rfl⟩ := hy
      rw [gIf_in hn (by decide)]
      refine b_X12_seen_12 hG hP (fun _ => c_X12_copies hG hP hm) (fun _ => ?_) (fun h => absurd h (by decide))
      rintro μ3 ⟨hq3, hm3, ⟨hr, hlo, hth, hod⟩, hP3, -⟩
      refine b_X12_seen_21 hG hP3 (q_goes hG hP3 hm3 hr hm.2.2.2.1 hod (rt_ok hm.2.2.2.2) (by omega)) ?_
      rintro μ4 ⟨hq4, hm4, hP4, -, hr4⟩
      rw [hlo, hth] at hr4
      have e : (12 : Int32) + nI a = nI (12 + a) := nI_add 12 a
      refine b_X12_seen_26 hG hP4 (by rw [e]; exact vp_in_nI (by omega) (by decide)) ⟨?_, hq3.trans hq4⟩
      rw [e, nI_clamp (by omega), hr4, hm4.2.1]; rfl
    · exact b_X12_seen_12 (ψ0 := fun _ => True) hG hP (fun h => absurd rfl h) (fun h => absurd rfl h) (fun _ => ⟨(gIf_out hy).symm, mQ.refl hm.2.2.1⟩)
  · exact b_X12_seen_5 (ψ1 := fun _ _ => True) hG hP (fun _ => ⟨(gIf_out hx).symm, mQ.refl hm.2.2.1⟩) (fun h => absurd rfl h) (fun h => absurd rfl h)
theorem free_less {T : sT} {Lw : Nat → sLaw} (hv : vT T Lw) {lots od : Int32} {S : sR} {a p : Nat} : sDs T Lw lots od (upd S 64 0) a p ≤ sDs T Lw lots od S a p := by
  have := sD_mono hv (goal := T 6 a) (pr := sPr T Lw (upd S 64 0) lots od a) (pr' := sPr T Lw (upd S 64 (S 64)) lots od a) (fun k hk => (sPr_OK hv k hk).1) (fun k hk => (gate_dear hv hk).1) p
  rw [upd_self] at this
  exact this
theorem c_X12_saves (hG : gMM G) {μ : jM} (hP : gNN μ) {v : Nat} {T : sT} {Lw : Nat → sLaw} {S : sR} (hm : mNow μ v T Lw S) (x : Int32) : jC0 l mX12_saves 7 G [.ref 112, .int x] μ (pI fun z μ' => z = rSaves T Lw S x ∧ mQ μ μ') := by
  refine jC0.of' (ls := [.ref 112, .int x, .null]) rfl rfl rfl (fun _ _ => Nat.le_of_ble_eq_true rfl) ?_
  have hv := hm.1.2.2.2.2.2
  have h7 := hv.1.2.2.1
  have h8 := hv.1.1
  refine b_X12_saves_0 hG hP (c_X12_isGhost hG hP hm.1 x) ?_
  rintro z μ1 ⟨rfl, ⟨rfl, hx⟩ | ⟨rfl, hx⟩⟩
  · obtain ⟨a, ha, rfl⟩ := hx
    rw [show rSaves T Lw S (nI a) = _ from gIf_in ha (by omega)]
    have h5 := (hv.2.2.1 a ha).1
    refine b_X12_saves_5 hG hP (fun _ => c_X12_copies hG hP hm) (fun _ => ?_) (fun h => absurd h (by decide))
    rintro μ2 ⟨hq2, hm2, ⟨hr, hlo, hth, hod⟩, hP2, -⟩
    refine b_X12_saves_14 hG hP2 (q_find hG hP2 hm2 hr hlo hod (rt_ok hm.2.2.2.2) ha) ?_
    rintro z μ3 ⟨hq3, hm3, hP3, ho3, -, hlf, ⟨rfl, hI, -⟩ | ⟨rfl, hI⟩⟩
    · rw [if_pos hI]
      have ix : ∀ {μ : jM}, txM μ v T Lw → vp_in ((7 * (μ.1 112 18)) + nI a) 14 ∧ μ.1 130 ((7 * (μ.1 112 18)) + nI a).toNatClampNeg = nI (T 5 a) := fun {μ} ht => by
        have hv2 := ht.1.1
        have e7 : (7 * (μ.1 112 18)) + nI a = nI (7 * v + a) := ix7 ht.1.2 rfl
        rw [e7, nI_clamp (by omega)]
        exact ⟨vp_in_nI (by omega) (by decide), (ht.2.2.2.1 a ha).1⟩
      have e64 : (wI μ3 152 64 0).1 152 = upd S 64 0 := by rw [wI_eq, ho3.c 152 (by decide) (by decide), hr]
      have hqw : mQ μ3 (wI μ3 152 64 0) := ⟨mOff_wC (by decide) (by decide), fun i hi => by rw [wI_off' (by omega)]; exact hm3.2.2.1 i hi⟩
      have hPw : gNN (wI μ3 152 64 0) := hP3
      have u65 : upd S 64 0 65 = S 65 := upd_ne (by decide)
      refine b_X12_saves_19 hG hP3 (fun _ => (ix hm3.1).1) (fun _ => by rw [(ix hm3.1).2]; exact vp_in_nI (by omega) (by decide)) (fun _ => q_find (μ := wI μ3 152 64 0) hG hPw (hqw.now hm3) e64 (lots := nI (T 0 7)) (od := -1) (by rw [wI_ne (by decide), ho3.f 58 (by decide)]; exact hlo) (by rw [wI_ne (by decide), ho3.f 60 (by decide)]; exact hod) (rt_ok (by rw [u65]; exact hm.2.2.2.2)) ha) (fun _ => ?_) (fun h => absurd h (by decide))
      rw [(ix hm3.1).2, nI_clamp (by omega), hlf (T 5 a) (by omega), eD_fin hI]
      rintro z μ4 ⟨hq4, hm4, hP4, ho4, -, hlf4, -⟩
      refine b_X12_saves_58 hG hP4 (ix hm4.1).1 (by rw [(ix hm4.1).2]; exact vp_in_nI (by omega) (by decide)) ⟨?_, ((hq2.trans hq3).trans hqw).trans hq4⟩
      rw [(ix hm4.1).2, nI_clamp (by omega), hlf4 (T 5 a) (by omega), eD_fin (Nat.lt_of_le_of_lt (free_less hv) hI)]
    · rw [if_neg hI]
      exact b_X12_saves_19 (ψ0 := fun _ _ => True) hG hP3 (fun h => absurd rfl h) (fun h => absurd rfl h) (fun h => absurd rfl h) (fun h => absurd rfl h) (fun _ => ⟨rfl, hq2.trans hq3⟩)
  · exact b_X12_saves_5 (ψ0 := fun _ => True) hG hP (fun h => absurd rfl h) (fun h => absurd rfl h) (fun _ => ⟨(gIf_out hx).symm, mQ.refl hm.2.2.1⟩)
end ModR
