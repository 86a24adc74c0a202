/-! WHO THERE WAS, by what was dreamt; the reference says it -/
noncomputable def sdW (T : sT) (Lw : Nat → sLaw) (s n : Nat) : sR := sNn T Lw (nI (T 0 7)) (-1) (nI s) n (sBg T)
/-- one is SEEN on a ROAD in a night from the begin, if this set is there -/
noncomputable def seB (T : sT) (Lw : Nat → sLaw) (s n k : Nat) : Bool := decide (sdW T Lw s n (12 + k) < sdW T Lw s (n + 1) (12 + k))
def b01 (b : Bool) : Int32 := if b = true then 1 else 0
def soP (T : sT) (Lw : Nat → sLaw) (D : List (Nat × Nat × Nat)) (c s : Nat) : Prop := ∀ i, i < c → ∀ d, D[i]? = some d → b01 (seB T Lw s d.2.1 d.1) = nI d.2.2
noncomputable def rWho (a : aS) (x y : Int32) : Int32 := gIf x ((gD a).length + 1) (fun c => if -1 ≤ y then pkF (soP (gT a) (gL a) (gD a) c) (fun s => nI s) y (2 ^ gT a 0 2) 0 0 else -1)
noncomputable def ctP (P : Nat → Prop) : Nat → Nat
  | 0 => 0
  | n + 1 => @ite _ (P n) (Classical.propDecidable _) (ctP P n + 1) (ctP P n)
theorem ctP_yes {P : Nat → Prop} {n : Nat} (h : P n) : ctP P (n + 1) = ctP P n + 1 := if_pos h
theorem ctP_no {P : Nat → Prop} {n : Nat} (h : ¬ P n) : ctP P (n + 1) = ctP P n := if_neg h
theorem ctP_le {P : Nat → Prop} : ∀ n, ctP P n ≤ n := by
  intro n
  induction n with
  | zero => exact Nat.le_refl _
  | succ n ih =>
    by_cases h : P n
    · rw [ctP_yes h]; omega
    · rw [ctP_no h]; omega
theorem ctP_mono {P Q : Nat → Prop} (h : ∀ i, P i → Q i) : ∀ n, ctP P n ≤ ctP Q n := by
  intro n
  induction n with
  | zero => exact Nat.le_refl _
  | succ n ih =>
    by_cases hp : P n
    · rw [ctP_yes hp, ctP_yes (h n hp)]; omega
    · rw [ctP_no hp]
      by_cases hq : Q n
      · rw [ctP_yes hq]; omega
      · rw [ctP_no hq]; exact ih
/-- how many sets remain at worst, if one watches a ROAD -/
noncomputable def wrV (T : sT) (Lw : Nat → sLaw) (D : List (Nat × Nat × Nat)) (c n k : Nat) : Nat := max (ctP (fun s => soP T Lw D c s ∧ seB T Lw s n k = true) (2 ^ T 0 2)) (ctP (soP T Lw D c) (2 ^ T 0 2) - ctP (fun s => soP T Lw D c s ∧ seB T Lw s n k = true) (2 ^ T 0 2))
theorem wrV_le {T : sT} {Lw : Nat → sLaw} {D : List (Nat × Nat × Nat)} {c n k : Nat} (h7 : T 0 2 ≤ 7) : wrV T Lw D c n k ≤ 128 := by
  unfold wrV
  have h1 := ctP_le (P := fun s => soP T Lw D c s ∧ seB T Lw s n k = true) (2 ^ T 0 2)
  have h2 := ctP_le (P := soP T Lw D c) (2 ^ T 0 2)
  have h3 : 2 ^ T 0 2 ≤ 2 ^ 7 := Nat.pow_le_pow_right (by decide) h7
  omega
/-- the ROAD to watch among the first, and what remains -/
noncomputable def wtF (T : sT) (Lw : Nat → sLaw) (D : List (Nat × Nat × Nat)) (c n : Nat) : Nat → Int32 × Nat
  | 0 => (-2, 129)
  | k + 1 => if T 4 k = 1 ∧ wrV T Lw D c n k < (wtF T Lw D c n k).2 then (nI k, wrV T Lw D c n k) else wtF T Lw D c n k
theorem wtF_yes {T : sT} {Lw : Nat → sLaw} {D : List (Nat × Nat × Nat)} {c n k : Nat} (h : T 4 k = 1 ∧ wrV T Lw D c n k < (wtF T Lw D c n k).2) : wtF T Lw D c n (k + 1) = (nI k, wrV T Lw D c n k) := if_pos h
theorem wtF_no {T : sT} {Lw : Nat → sLaw} {D : List (Nat × Nat × Nat)} {c n k : Nat} (h : ¬ (T 4 k = 1 ∧ wrV T Lw D c n k < (wtF T Lw D c n k).2)) : wtF T Lw D c n (k + 1) = wtF T Lw D c n k := if_neg h
noncomputable def rWatch (a : aS) (x y : Int32) : Int32 := gIf x ((gD a).length + 1) (fun c => gIf y 31 (fun n => (wtF (gT a) (gL a) (gD a) c n (gT a 0 1)).1))
theorem lI_lt {m i : Nat} (hm : m < 2 ^ 31) (hi : i < 2 ^ 31) : (nI m - 1 < nI i) ↔ m ≤ i := by
  cases m with
  | zero =>
    have e1 : (nI 0 - 1 : Int32).toInt = -1 := rfl
    rw [i32_lt, e1, nI_toInt hi]; omega
  | succ m =>
    have : nI (m + 1) - 1 = nI m := by rw [Int32.sub_eq_add_neg, nI_dec]
    rw [this, i32_lt, nI_toInt (by omega), nI_toInt hi]; omega
theorem dn_at {μ : jM} {D : List (Nat × Nat × Nat)} (h : dreamM μ D) {i : Nat} (hi : i < D.length) : ∃ d, D[i]? = some d ∧ d ∈ D ∧ μ.1 159 i = nI d.1 ∧ μ.1 160 i = nI d.2.1 ∧ μ.1 161 i = nI d.2.2 := ⟨D[i], List.getElem?_eq_getElem hi, List.getElem_mem hi, h.2.2 i _ (List.getElem?_eq_getElem hi)⟩
section ModZ
variable {l : Launch} {G : jG}
/-- how many nights are TOLD of -/
def lsN (D : List (Nat × Nat × Nat)) : Nat → Nat
  | 0 => 0
  | i + 1 => match D[i]? with
    | some d => if d.2.1 < lsN D i then lsN D i else d.2.1 + 1
    | none => lsN D i
theorem lsN_at {D : List (Nat × Nat × Nat)} {i : Nat} {d : Nat × Nat × Nat} (h : D[i]? = some d) : lsN D (i + 1) = if d.2.1 < lsN D i then lsN D i else d.2.1 + 1 := by
  conv => lhs; unfold lsN
  rw [h]
theorem c_X12_lastTold (hG : gMM G) {μ : jM} (hP : gNN μ) {D : List (Nat × Nat × Nat)} {c : Nat} (hd : dreamM μ D) (hc : c ≤ D.length) (h30 : ∀ d ∈ D, d.2.1 ≤ 30) : jC0 l mX12_lastTold 0 G [.ref 112, .int (nI c)] μ (pI fun z μ' => μ' = μ ∧ ∃ m, m ≤ 31 ∧ z = nI m - 1 ∧ (∀ i, i < c → ∀ d, D[i]? = some d → d.2.1 < m) ∧ m = lsN D c) := by
  refine jC0.of' (ls := [.ref 112, .int (nI c), .null, .null]) rfl rfl rfl (fun _ _ => Nat.le_of_ble_eq_true rfl) ?_
  have h20 := hd.2.1
  refine b_X12_lastTold_0 hG hP ?_
  have loop : ∀ i, i ≤ c → ∀ m, m ≤ 31 → m = lsN D i → (∀ j, j < i → ∀ d, D[j]? = some d → d.2.1 < m) → J l mX12_lastTold (jZ0 0 G (pI fun z μ' => μ' = μ ∧ ∃ m, m ≤ 31 ∧ z = nI m - 1 ∧ (∀ i, i < c → ∀ d, D[i]? = some d → d.2.1 < m) ∧ m = lsN D c)) G 0 0 4 [.ref 112, .int (nI c), .int (nI m - 1), .int (nI i)] [] μ := by
    refine up_loop c ?_ (fun i hi ih => ?_)
    · intro m hm hme hall
      have hle : nI c ≤ nI c := nI_le (Nat.le_refl _) (by omega)
      exact b_X12_lastTold_4 hG hP (fun _ => ⟨rfl, m, hm, rfl, hall, hme⟩) (fun h => absurd hle h) (fun h => absurd hle h) (fun h => absurd hle h)
    · intro m hm hme hall
      obtain ⟨d, hdi, hdm, e1, e2, e3⟩ := dn_at hd (show i < D.length by omega)
      have ci : (nI i).toNatClampNeg = i := nI_clamp (by omega)
      have hls := lsN_at hdi
      rw [← hme] at hls
      have hd30 := h30 d hdm
      have hlt := lI_lt (m := m) (i := d.2.1) (by omega) (by omega)
      refine b_X12_lastTold_4 hG hP (fun h => absurd h (nI_ge hi (by omega))) (fun _ => vp_in_nI (by omega) (by decide)) (fun _ h => ?_) (fun _ h => ?_)
      · rw [ci, e2] at h
        rw [nI_inc]
        have hnm : ¬ m ≤ d.2.1 := fun z => by have := hlt.mpr z; rw [i32_lt] at this; rw [i32_le] at h; omega
        refine ih m hm (by rw [hls, if_pos (by omega)]) (fun j hj q hq => ?_)
        by_cases e : j = i
        · rw [e, hdi] at hq
          cases hq
          omega
        · exact hall j (by omega) q hq
      · rw [ci, e2] at h ⊢
        rw [nI_inc, show nI d.2.1 = nI (d.2.1 + 1) - 1 from by rw [Int32.sub_eq_add_neg, nI_dec]]
        have hge : m ≤ d.2.1 := hlt.mp (by rw [i32_lt]; rw [i32_le] at h; omega)
        refine ih (d.2.1 + 1) (by omega) (by rw [hls, if_neg (by omega)]) (fun j hj q hq => ?_)
        by_cases e : j = i
        · rw [e, hdi] at hq
          cases hq; omega
        · have := hall j (by omega) q hq; omega
  have := loop 0 (Nat.zero_le _) 0 (by omega) rfl (fun j hj => by omega)
  rw [show nI 0 - 1 = (-1 : Int32) from rfl] at this
  exact this
theorem c_X12_isSo (hG : gMM G) {μ : jM} (hP : gNN μ) {T : sT} {Lw : Nat → sLaw} {D : List (Nat × Nat × Nat)} {c m s : Nat} (hd : dreamM μ D) (hc : c ≤ D.length) (hok : ∀ d ∈ D, d.1 < T 0 1 ∧ d.2.1 ≤ 30 ∧ d.2.2 ≤ 1) (h12 : T 0 1 ≤ 12) (hlast : ∀ i, i < c → ∀ d, D[i]? = some d → d.2.1 < m) (hw : ∀ n, n < m → ∀ k, k < T 0 1 → μ.1 162 (12 * n + k) = b01 (seB T Lw s n k)) : jC0 l mX12_isSo 0 G [.ref 112, .int (nI c)] μ (pI fun z μ' => μ' = μ ∧ ((z = 1 ∧ soP T Lw D c s) ∨ (z = 0 ∧ ¬ soP T Lw D c s))) := by
  refine jC0.of' (ls := [.ref 112, .int (nI c), .null]) rfl rfl rfl (fun _ _ => Nat.le_of_ble_eq_true rfl) ?_
  have h20 := hd.2.1
  refine b_X12_isSo_0 hG hP ?_
  have loop : ∀ i, i ≤ c → (∀ j, j < i → ∀ d, D[j]? = some d → b01 (seB T Lw s d.2.1 d.1) = nI d.2.2) → J l mX12_isSo (jZ0 0 G (pI fun z μ' => μ' = μ ∧ ((z = 1 ∧ soP T Lw D c s) ∨ (z = 0 ∧ ¬ soP T Lw D c s)))) G 0 0 2 [.ref 112, .int (nI c), .int (nI i)] [] μ := by
    refine up_loop c ?_ (fun i hi ih => ?_)
    · intro hall
      have hle : nI c ≤ nI c := nI_le (Nat.le_refl _) (by omega)
      exact b_X12_isSo_2 hG hP (fun _ => ⟨rfl, Or.inl ⟨rfl, hall⟩⟩) (fun h => absurd hle h) (fun h => absurd hle h) (fun h => absurd hle h) (fun h => absurd hle h)
    · intro hall
      obtain ⟨d, hdi, hdm, e1, e2, e3⟩ := dn_at hd (show i < D.length by omega)
      have ci : (nI i).toNatClampNeg = i := nI_clamp (by omega)
      obtain ⟨d1, d2, d3⟩ := hok d hdm
      have ex : (12 * (μ.1 160 (nI i).toNatClampNeg)) + (μ.1 159 (nI i).toNatClampNeg) = nI (12 * d.2.1 + d.1) := by rw [ci, e1, e2]; exact ix12 rfl rfl
      have cx : ((12 * (μ.1 160 (nI i).toNatClampNeg)) + (μ.1 159 (nI i).toNatClampNeg)).toNatClampNeg = 12 * d.2.1 + d.1 := by rw [ex]; exact nI_clamp (by omega)
      have hwd := hw d.2.1 (hlast i hi d hdi) d.1 d1
      refine b_X12_isSo_2 hG hP (fun h => absurd h (nI_ge hi (by omega))) (fun _ => vp_in_nI (by omega) (by decide)) (fun _ => by rw [ex]; exact vp_in_nI (by omega) (by decide)) (fun _ h => ?_) (fun _ h => ⟨rfl, Or.inr ⟨rfl, fun z => h ?_⟩⟩)
      · rw [cx, hwd, ci, e3] at h
        rw [nI_inc]
        refine ih (fun j hj q hq => ?_)
        by_cases e : j = i
        · rw [e, hdi] at hq
          cases hq; exact h
        · exact hall j (by omega) q hq
      · rw [cx, hwd, ci, e3]; exact z i hi d hdi
  exact loop 0 (Nat.zero_le _) (fun j hj => by omega)
theorem bg_hi {T : sT} : ∀ i, 68 ≤ i → sBg T i = 0 := fun i hi => by unfold sBg; rw [upd_ne (by omega), upd_ne (by omega)]
theorem bg_rt {T : sT} : ∃ r, r ≤ 9 ∧ sBg T 65 = nI r := ⟨1, by decide, by unfold sBg; rw [upd_at]; rfl⟩
theorem c_X12_fillsSeen (hG : gMM G) {μ : jM} (hP : gNN μ) {v m s : Nat} {T : sT} {Lw : Nat → sLaw} {S : sR} (hm : mNow μ v T Lw S) (hmm : m ≤ 31) : jC0 l mX12_fillsSeen 8 G [.ref 112, .int (nI s), .int (nI m - 1)] μ (pV fun μ' => mQ μ μ' ∧ mOff [149, 150, 152, 153, 154, 155, 156, 162, 163] [55, 58, 59, 60, 65] μ μ' ∧ mNow μ' v T Lw S ∧ gNN μ' ∧ ∀ n, n < m → ∀ k, k < T 0 1 → μ'.1 162 (12 * n + k) = b01 (seB T Lw s n k)) := by
  refine jC0.of' (ls := [.ref 112, .int (nI s), .int (nI m - 1), .null, .null]) rfl rfl rfl (fun _ _ => Nat.le_of_ble_eq_true rfl) ?_
  have hv := hm.1.2.2.2.2.2
  have h12 := hv.1.2.1
  obtain ⟨X, hX⟩ : ∃ X : jM → Prop, X = fun μ' => mQ μ μ' ∧ mOff [149, 150, 152, 153, 154, 155, 156, 162, 163] [55, 58, 59, 60, 65] μ μ' ∧ mNow μ' v T Lw S ∧ gNN μ' ∧ ∀ n, n < m → ∀ k, k < T 0 1 → μ'.1 162 (12 * n + k) = b01 (seB T Lw s n k) := ⟨_, rfl⟩
  rw [← hX]
  refine b_X12_fillsSeen_0 hG hP (c_X12_begins hG hP hm.1 hm.2.2.1) ?_
  rintro μ1 ⟨ho1, hr1, hlo1, hth1, hod1⟩
  have hP1 := ho1.gNN hP
  refine b_X12_fillsSeen_4 hG hP1 ?_
  have ow : mOff [152] [58, 59, 60] μ (wI μ1 112 59 (nI s)) := ho1.trans (mOff_wF (by decide))
  have hr0 : (wI μ1 112 59 (nI s)).1 152 = sBg T := by rw [wI_ne (by decide)]; exact hr1
  have hq0 : mQ μ (wI μ1 112 59 (nI s)) := ⟨ow.mono (by decide) (by decide), fun i hi => by rw [hr0]; exact bg_hi i hi⟩
  have loop : ∀ n, n ≤ m → ∀ μ2, mQ μ μ2 → mOff [149, 150, 152, 153, 154, 155, 156, 162, 163] [55, 58, 59, 60, 65] μ μ2 → gNN μ2 → μ2.1 152 = sdW T Lw s n → μ2.1 112 58 = nI (T 0 7) → μ2.1 112 59 = nI s → μ2.1 112 60 = -1 → (∀ q, q < n → ∀ k, k < T 0 1 → μ2.1 162 (12 * q + k) = b01 (seB T Lw s q k)) → J l mX12_fillsSeen (jZ0 8 G (pV X)) G 0 0 11 [.ref 112, .null, .int (nI m - 1), .int (nI n), .null] [] μ2 := by
    refine up_loop m ?_ (fun n hn ih => ?_)
    · intro μ2 hq2 ho2 hP2 hr2 h58 h59 h60 hw2
      have hlt : nI m - 1 < nI m := (lI_lt (by omega) (by omega)).mpr (Nat.le_refl _)
      exact b_X12_fillsSeen_11 hG hP2 (fun _ => by rw [hX]; exact ⟨hq2, ho2, hq2.now hm, hP2, hw2⟩) (fun h => absurd hlt h)
    · intro μ2 hq2 ho2 hP2 hr2 h58 h59 h60 hw2
      have hnl : ¬ nI m - 1 < nI n := fun z => by have := (lI_lt (by omega) (by omega)).mp z; omega
      refine b_X12_fillsSeen_11 hG hP2 (fun h => absurd h hnl) (fun _ => ?_)
      -- nothing is SEEN yet
      have l1 : ∀ k, k ≤ 12 → ∀ μ3, mOff [162] [] μ2 μ3 → (∀ i, i < 12 * n → μ3.1 162 i = μ2.1 162 i) → J l mX12_fillsSeen (jZ0 8 G (pV X)) G 0 0 19 [.ref 112, .null, .int (nI m - 1), .int (nI n), .int (nI k)] [] μ3 := by
        refine up_loop 12 ?_ (fun k hk ihk => ?_)
        · intro μ3 ho3 hb3
          have hP3 := ho3.gNN hP2
          refine b_X12_fillsSeen_19 hG hP3 (fun _ => ?_) (fun h => absurd (by decide) h) (fun h => absurd (by decide) h)
          -- what was SEEN before
          have l2 : ∀ k, k ≤ T 0 1 → ∀ μ4, mOff [162, 163] [] μ2 μ4 → (∀ i, i < 12 * n → μ4.1 162 i = μ2.1 162 i) → (∀ j, j < k → μ4.1 163 j = sdW T Lw s n (12 + j)) → J l mX12_fillsSeen (jZ0 8 G (pV X)) G 0 0 48 [.ref 112, .null, .int (nI m - 1), .int (nI n), .int (nI k)] [] μ4 := by
            refine up_loop (T 0 1) ?_ (fun k hk ihk => ?_)
            · intro μ4 ho4 hb4 hs4
              have hP4 := ho4.gNN hP2
              have hq4 : mQ μ μ4 := hq2.trans ⟨ho4.mono (by decide) (by decide), fun i hi => by rw [ho4.c 152 (by decide) (by decide)]; exact hq2.2 i hi⟩
              have hm4 := hq4.now hm
              obtain ⟨n1, n2⟩ := nr_at hm4.1
              have hle : μ4.1 123 (μ4.1 112 18).toNatClampNeg ≤ nI (T 0 1) := by rw [n2]; exact nI_le (Nat.le_refl _) (by omega)
              have r4 : μ4.1 152 = sdW T Lw s n := by rw [ho4.c 152 (by decide) (by decide)]; exact hr2
              have g58 : μ4.1 112 58 = nI (T 0 7) := by rw [ho4.f 58 (by decide)]; exact h58
              have g59 : μ4.1 112 59 = nI s := by rw [ho4.f 59 (by decide)]; exact h59
              have g60 : μ4.1 112 60 = -1 := by rw [ho4.f 60 (by decide)]; exact h60
              have u65 : sdW T Lw s n 65 = sBg T 65 := sNn_65 hv n
              have hgo := q_night (l := l) (E := sdW T Lw s n) (od := -1) hG hP4 hm4 r4 (fun j hj => by unfold sdW; rw [sNn_hi hv hj]; exact bg_hi j hj) g60 (rt_ok (by rw [u65]; exact bg_rt))
              rw [g58, g59] at hgo
              refine b_X12_fillsSeen_48 hG hP4 n1 (fun _ => hgo) (fun _ => ?_) (fun h => absurd hle h) (fun h => absurd hle h) (fun h => absurd hle h)
              rintro μ5 ⟨hq5, hm5, hP5, ho5, hr5⟩
              have hr5' : μ5.1 152 = sdW T Lw s (n + 1) := hr5
              refine b_X12_fillsSeen_89 hG hP5 ?_
              have l3 : ∀ k, k ≤ T 0 1 → ∀ μ6, mOff [162] [] μ5 μ6 → (∀ i, i < 12 * n → μ6.1 162 i = μ2.1 162 i) → (∀ j, j < k → μ6.1 162 (12 * n + j) = b01 (seB T Lw s n j)) → J l mX12_fillsSeen (jZ0 8 G (pV X)) G 0 0 92 [.ref 112, .null, .int (nI m - 1), .int (nI n), .int (nI k)] [] μ6 := by
                refine up_loop (T 0 1) ?_ (fun k hk ihk => ?_)
                · intro μ6 ho6 hb6 hs6
                  have hP6 := ho6.gNN hP5
                  have hq6 : mQ μ μ6 := (hq4.trans hq5).trans ⟨ho6.mono (by decide) (by decide), fun i hi => by rw [ho6.c 152 (by decide) (by decide)]; exact hq5.2 i hi⟩
                  have hm6 := hq6.now hm
                  obtain ⟨n1, n2⟩ := nr_at hm6.1
                  have hle : μ6.1 123 (μ6.1 112 18).toNatClampNeg ≤ nI (T 0 1) := by rw [n2]; exact nI_le (Nat.le_refl _) (by omega)
                  refine b_X12_fillsSeen_92 hG hP6 n1 (fun _ => ?_) (fun h => absurd hle h) (fun h => absurd hle h) (fun h => absurd hle h) (fun h => absurd hle h) (fun h => absurd hle h) (fun h => absurd hle h)
                  rw [nI_inc]
                  refine ih μ6 hq6 (((ho2.trans (ho4.mono (by decide) (by decide))).trans (ho5.mono (by decide) (by decide))).trans (ho6.mono (by decide) (by decide))) hP6 (by rw [ho6.c 152 (by decide) (by decide)]; exact hr5') (by rw [ho6.f 58 (by decide), ho5.f 58 (by decide)]; exact g58) (by rw [ho6.f 59 (by decide), ho5.f 59 (by decide)]; exact g59) (by rw [ho6.f 60 (by decide), ho5.f 60 (by decide)]; exact g60) (fun q hq k hk => ?_)
                  by_cases e : q = n
                  · rw [e]; exact hs6 k hk
                  · rw [hb6 _ (by omega)]; exact hw2 q (by omega) k hk
                · intro μ6 ho6 hb6 hs6
                  have hP6 := ho6.gNN hP5
                  have hq6 : mQ μ μ6 := (hq4.trans hq5).trans ⟨ho6.mono (by decide) (by decide), fun i hi => by rw [ho6.c 152 (by decide) (by decide)]; exact hq5.2 i hi⟩
                  have hm6 := hq6.now hm
                  obtain ⟨n1, n2⟩ := nr_at hm6.1
                  have hgt : ¬ μ6.1 123 (μ6.1 112 18).toNatClampNeg ≤ nI k := by rw [n2]; exact nI_ge hk (by omega)
                  have e12 : (12 : Int32) + nI k = nI (12 + k) := nI_add 12 k
                  have c12 : ((12 : Int32) + nI k).toNatClampNeg = 12 + k := by rw [e12]; exact nI_clamp (by omega)
                  have ex : (12 * nI n) + nI k = nI (12 * n + k) := ix12 rfl rfl
                  have cx : ((12 * nI n) + nI k).toNatClampNeg = 12 * n + k := by rw [ex]; exact nI_clamp (by omega)
                  have ck : (nI k).toNatClampNeg = k := nI_clamp (by omega)
                  have r6 : μ6.1 152 (12 + k) = sdW T Lw s (n + 1) (12 + k) := by rw [ho6.c 152 (by decide) (by decide), hr5']
                  have s6 : μ6.1 163 k = sdW T Lw s n (12 + k) := by rw [ho6.c 163 (by decide) (by decide), ho5.c 163 (by decide) (by decide)]; exact hs4 k hk
                  have hnext : ∀ x, x = b01 (seB T Lw s n k) → J l mX12_fillsSeen (jZ0 8 G (pV X)) G 0 0 92 [.ref 112, .null, .int (nI m - 1), .int (nI n), .int (nI k + 1)] [] (wI μ6 162 (12 * n + k) x) := fun x hx => by
                    rw [nI_inc]
                    refine ihk _ (ho6.trans (mOff_wC (by decide) (by decide))) (fun i hi => by rw [wI_off' (by omega)]; exact hb6 i hi) (fun j hj => ?_)
                    by_cases e : j = k
                    · rw [e, wI_at]; exact hx
                    · rw [wI_off' (by omega)]; exact hs6 j (by omega)
                  refine b_X12_fillsSeen_92 hG hP6 n1 (fun h => absurd h hgt) (fun _ => by rw [e12]; exact vp_in_nI (by omega) (by decide)) (fun _ => vp_in_nI (by omega) (by decide)) (fun _ _ => by rw [ex]; exact vp_in_nI (by omega) (by decide)) (fun _ h => ?_) (fun _ _ => by rw [ex]; exact vp_in_nI (by omega) (by decide)) (fun _ h => ?_)
                  · rw [c12, ck, r6, s6] at h
                    rw [cx]
                    refine hnext _ ?_
                    have : seB T Lw s n k = false := by
                      unfold seB; exact decide_eq_false (fun z => by rw [i32_lt] at z; rw [i32_le] at h; omega)
                    rw [this]; rfl
                  · rw [c12, ck, r6, s6] at h
                    rw [cx]
                    refine hnext _ ?_
                    have : seB T Lw s n k = true := by
                      unfold seB; exact decide_eq_true (by rw [i32_lt]; rw [i32_le] at h; omega)
                    rw [this]; rfl
              exact l3 0 (Nat.zero_le _) μ5 mOff.refl (fun i hi => by rw [ho5.c 162 (by decide) (by decide)]; exact hb4 i hi) (fun j hj => by omega)
            · intro μ4 ho4 hb4 hs4
              have hP4 := ho4.gNN hP2
              have hq4 : mQ μ μ4 := hq2.trans ⟨ho4.mono (by decide) (by decide), fun i hi => by rw [ho4.c 152 (by decide) (by decide)]; exact hq2.2 i hi⟩
              have hm4 := hq4.now hm
              obtain ⟨n1, n2⟩ := nr_at hm4.1
              have hgt : ¬ μ4.1 123 (μ4.1 112 18).toNatClampNeg ≤ nI k := by rw [n2]; exact nI_ge hk (by omega)
              have e12 : (12 : Int32) + nI k = nI (12 + k) := nI_add 12 k
              refine b_X12_fillsSeen_48 (ψ0 := fun _ => True) hG hP4 n1 (fun h => absurd h hgt) (fun h => absurd h hgt) (fun _ => by rw [e12]; exact vp_in_nI (by omega) (by decide)) (fun _ => vp_in_nI (by omega) (by decide)) (fun _ => ?_)
              rw [e12, nI_clamp (by omega), nI_clamp (by omega), nI_inc, ho4.c 152 (by decide) (by decide), hr2]
              refine ihk _ (ho4.trans (mOff_wC (by decide) (by decide))) (fun i hi => by rw [wI_ne (by decide)]; exact hb4 i hi) (fun j hj => ?_)
              by_cases e : j = k
              · rw [e, wI_at]
              · rw [wI_off' e]; exact hs4 j (by omega)
          exact l2 0 (Nat.zero_le _) μ3 (ho3.mono (by decide) (by decide)) hb3 (fun j hj => by omega)
        · intro μ3 ho3 hb3
          have hP3 := ho3.gNN hP2
          have ex : (12 * nI n) + nI k = nI (12 * n + k) := ix12 rfl rfl
          refine b_X12_fillsSeen_19 hG hP3 (fun h => absurd h (nI_ge (b := 12) hk (by decide))) (fun _ => by rw [ex]; exact vp_in_nI (by omega) (by decide)) (fun _ => ?_)
          rw [ex, nI_clamp (by omega), nI_inc]
          exact ihk _ (ho3.trans (mOff_wC (by decide) (by decide))) (fun i hi => by rw [wI_off' (by omega)]; exact hb3 i hi)
      exact l1 0 (by omega) μ2 mOff.refl (fun _ _ => rfl)
  exact loop 0 (Nat.zero_le _) _ hq0 (ow.mono (by decide) (by decide)) hP1 hr0 (by rw [wI_off' (by decide)]; exact hlo1) (by rw [wI_at]) (by rw [wI_off' (by decide)]; exact hod1) (fun q hq => by omega)
end ModZ
