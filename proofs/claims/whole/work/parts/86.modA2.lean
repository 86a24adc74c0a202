/-! THE REFERENCE: who, watch -/
section ModA2
variable {l : Launch} {G : jG}
theorem ng_at {μ : jM} {v : Nat} {T : sT} {Lw : Nat → sLaw} (ht : txM μ v T Lw) : vp_in (μ.1 112 18) 2 ∧ μ.1 129 (μ.1 112 18).toNatClampNeg = nI (T 0 2) := ⟨ix_in ht.1.2 ht.1.1 (by decide), by rw [ix_cl ht.1.2 (by have := ht.1.1; omega)]; exact ht.2.1.2.2.1⟩
theorem c_X12_who (hG : gMM G) {μ : jM} (hP : gNN μ) {a : aS} {B : Nat} (ha : mI a μ) (hok : aOK a B) (x y : Int32) : jC0 l mX12_who 9 G [.ref 112, .int x, .int y] μ (pI fun z μ' => z = rWho a x y ∧ mQ μ μ') := by
  refine jC0.of' (ls := [.ref 112, .int x, .int y, .null, .null, .null]) rfl rfl rfl (fun _ _ => Nat.le_of_ble_eq_true rfl) ?_
  obtain ⟨⟨v, h1⟩, h2, h3, h4, h5, h6⟩ := id ha
  have hz := mQ.refl h1.2.2.1
  have hv := h1.1.2.2.2.2.2
  have h12 := hv.1.2.1
  have h7 := hv.1.2.2.1
  have hD := hok.2.2.2
  have h20 := h6.2.1
  have hpw := pow_le (gT a 0 2) (by omega)
  refine b_X12_who_0 hG hP (c_X12_inN hG hP x (n := (gD a).length) h6.1 (by omega)) ?_
  rintro z μ1 ⟨rfl, ⟨rfl, hx⟩ | ⟨rfl, hx⟩⟩
  · obtain ⟨c, hc, rfl⟩ := hx
    rw [show rWho a (nI c) y = _ from gIf_in hc (by omega)]
    refine b_X12_who_9 hG hP (fun h => absurd h (by decide)) (fun _ _ => c_X12_lastTold hG hP h6 (by omega) (fun d hd => (hD d hd).2.1)) (fun _ hy => ?_) (fun _ hy => ⟨(if_neg hy).symm, hz⟩)
    rw [if_pos hy]
    rintro z μ2 ⟨rfl, m, hm31, rfl, hlast, -⟩
    refine b_X12_who_24 hG hP ?_
    have loop : ∀ (q s : Nat) (f : Int32) (μ3 : jM), s + q = 2 ^ gT a 0 2 → mQ μ2 μ3 → gNN μ3 → J l mX12_who (jZ0 9 G (pI fun z μ' => z = pkF (soP (gT a) (gL a) (gD a) c) (fun s => nI s) y q s f ∧ mQ μ2 μ')) G 0 0 31 [.ref 112, .int (nI c), .int y, .int (nI m - 1), .int f, .int (nI s)] [] μ3 := by
      intro q
      induction q with
      | zero =>
        intro s f μ3 hs hq3 hP3
        have hm3 := hq3.now h1
        obtain ⟨n1, n2⟩ := ng_at hm3.1
        have hle : ((1 : Int32) <<< ((μ3.1 129 (μ3.1 112 18).toNatClampNeg) &&& 31)) ≤ nI s := by rw [n2, pow_sh _ (by omega)]; exact nI_le (by omega) (by omega)
        refine b_X12_who_31 (ψ2 := fun _ => True) hG hP3 n1 (fun _ h => ⟨?_, hq3⟩) (fun _ h => ⟨?_, hq3⟩) (fun h => absurd hle h) (fun h => absurd hle h)
        · show -1 = if y = -1 then f else -1; rw [if_neg h]
        · show f = if y = -1 then f else -1; rw [if_pos h]
      | succ q ih =>
        intro s f μ3 hs hq3 hP3
        have hm3 := hq3.now h1
        obtain ⟨n1, n2⟩ := ng_at hm3.1
        have hgt : ¬ ((1 : Int32) <<< ((μ3.1 129 (μ3.1 112 18).toNatClampNeg) &&& 31)) ≤ nI s := by rw [n2, pow_sh _ (by omega)]; exact nI_ge (by omega) (by omega)
        refine b_X12_who_31 hG hP3 n1 (fun h => absurd h hgt) (fun h => absurd h hgt) (fun _ => c_X12_fillsSeen hG hP3 hm3 hm31) (fun _ => ?_)
        rintro μ4 ⟨hq4, ho4, hm4, hP4, hw⟩
        have hq' := hq3.trans hq4
        have hd4 : dreamM μ4 (gD a) := dreamM_off hq'.1 (by decide) (by decide) (by decide) (by decide) h6
        refine b_X12_who_54 hG hP4 (c_X12_isSo hG hP4 hd4 (by omega) hD h12 hlast hw) ?_
        rintro z μ5 ⟨rfl, ⟨rfl, hR⟩ | ⟨rfl, hR⟩⟩
        · rw [pkF_yes hR]
          refine b_X12_who_59 hG hP4 (fun _ h => ?_) (fun _ h => ⟨?_, hq'⟩) (fun h => absurd h (by decide))
          · rw [if_neg h, nI_inc]; exact ih (s + 1) (f + 1) μ5 (by omega) hq' hP4
          · rw [if_pos h]
        · rw [pkF_no hR]
          refine b_X12_who_59 hG hP4 (fun h => absurd rfl h) (fun h => absurd rfl h) (fun _ => ?_)
          rw [nI_inc]; exact ih (s + 1) f μ5 (by omega) hq' hP4
    exact loop (2 ^ gT a 0 2) 0 0 μ2 (by omega) hz hP
  · exact b_X12_who_9 (ψ1 := fun _ _ => True) hG hP (fun _ => ⟨(gIf_out hx).symm, hz⟩) (fun h => absurd rfl h) (fun h => absurd rfl h) (fun h => absurd rfl h)
theorem c_X12_watch (hG : gMM G) {μ : jM} (hP : gNN μ) {a : aS} {B : Nat} (ha : mI a μ) (hok : aOK a B) (x y : Int32) : jC0 l mX12_watch 9 G [.ref 112, .int x, .int y] μ (pI fun z μ' => z = rWatch a x y ∧ mQ μ μ') := by
  refine jC0.of' (ls := [.ref 112, .int x, .int y, .null, .null, .null, .null, .null, .null]) rfl rfl rfl (fun _ _ => Nat.le_of_ble_eq_true rfl) ?_
  obtain ⟨⟨v, h1⟩, h2, h3, h4, h5, h6⟩ := id ha
  have hz := mQ.refl h1.2.2.1
  have hv := h1.1.2.2.2.2.2
  have h12 := hv.1.2.1
  have h7 := hv.1.2.2.1
  have hD := hok.2.2.2
  have h20 := h6.2.1
  have hpw := pow_le (gT a 0 2) (by omega)
  have h128 : 2 ^ gT a 0 2 ≤ 2 ^ 7 := Nat.pow_le_pow_right (by decide) h7
  refine b_X12_watch_0 hG hP (c_X12_inN hG hP x (n := (gD a).length) h6.1 (by omega)) ?_
  rintro z μ1 ⟨rfl, ⟨rfl, hx⟩ | ⟨rfl, hx⟩⟩
  · obtain ⟨c, hc, rfl⟩ := hx
    rw [show rWatch a (nI c) y = _ from gIf_in hc (by omega)]
    refine b_X12_watch_9 hG hP (fun h => absurd h (by decide)) (fun _ => c_X12_inN hG hP y (n := 30) rfl (by decide)) (fun _ => ?_)
    rintro z μ2 ⟨rfl, ⟨rfl, hy⟩ | ⟨rfl, hy⟩⟩
    · obtain ⟨n, hn, rfl⟩ := hy
      rw [gIf_in hn (by decide)]
      refine b_X12_watch_19 hG hP (fun _ => ?_) (fun h => absurd h (by decide))
      obtain ⟨X, hX⟩ : ∃ X : Int32 → jM → Prop, X = fun z μ' => z = (wtF (gT a) (gL a) (gD a) c n (gT a 0 1)).1 ∧ mQ μ2 μ' := ⟨_, rfl⟩
      rw [← hX]
      obtain ⟨PA, hPA⟩ : ∃ PA : Nat → Prop, PA = soP (gT a) (gL a) (gD a) c := ⟨_, rfl⟩
      obtain ⟨PK, hPK⟩ : ∃ PK : Nat → Nat → Prop, PK = fun k s => soP (gT a) (gL a) (gD a) c s ∧ seB (gT a) (gL a) s n k = true := ⟨_, rfl⟩
      -- the choice of the ROAD
      have pick : ∀ μ3, mQ μ2 μ3 → gNN μ3 → (∀ k, k < gT a 0 1 → μ3.1 164 k = nI (ctP (PK k) (2 ^ gT a 0 2))) → J l mX12_watch (jZ0 9 G (pI X)) G 0 0 172 [.ref 112, .null, .null, .null, .int (nI (ctP PA (2 ^ gT a 0 2))), .int (-2), .int 0, .int 0, .null] [] μ3 := by
        intro μ3 hq3 hP3 hs3
        have hm3 := hq3.now h1
        obtain ⟨n1, n2⟩ := nr_at hm3.1
        have hA := ctP_le (P := PA) (2 ^ gT a 0 2)
        have loop : ∀ k, k ≤ gT a 0 1 → ∀ (b w : Int32), b = (wtF (gT a) (gL a) (gD a) c n k).1 → ((b = -2 ∧ (wtF (gT a) (gL a) (gD a) c n k).2 = 129) ∨ (¬ b < 0 ∧ w = nI (wtF (gT a) (gL a) (gD a) c n k).2)) → (wtF (gT a) (gL a) (gD a) c n k).2 ≤ 129 → J l mX12_watch (jZ0 9 G (pI X)) G 0 0 172 [.ref 112, .null, .null, .null, .int (nI (ctP PA (2 ^ gT a 0 2))), .int b, .int w, .int (nI k), .null] [] μ3 := by
          refine up_loop (gT a 0 1) ?_ (fun k hk ih => ?_)
          · intro b w hb hw h129
            have hle : μ3.1 123 (μ3.1 112 18).toNatClampNeg ≤ nI (gT a 0 1) := by rw [n2]; exact nI_le (Nat.le_refl _) (by omega)
            exact b_X12_watch_172 (ψ1 := fun _ _ => True) hG hP3 n1 (fun _ => by rw [hX]; exact ⟨hb, hq3⟩) (fun h => absurd hle h) (fun h => absurd hle h)
          · intro b w hb hw h129
            have hgt : ¬ μ3.1 123 (μ3.1 112 18).toNatClampNeg ≤ nI k := by rw [n2]; exact nI_ge hk (by omega)
            refine b_X12_watch_172 hG hP3 n1 (fun h => absurd h hgt) (fun _ => c_X12_overField hG hP3 hm3.1 hk) (fun _ => ?_)
            rintro z μ4 ⟨rfl, rfl⟩
            have ck : (nI k).toNatClampNeg = k := nI_clamp (by omega)
            have hK := ctP_le (P := PK k) (2 ^ gT a 0 2)
            have hKA : ctP (PK k) (2 ^ gT a 0 2) ≤ ctP PA (2 ^ gT a 0 2) := ctP_mono (fun i hi => by rw [hPA]; rw [hPK] at hi; exact hi.1) _
            have hwr : wrV (gT a) (gL a) (gD a) c n k = max (ctP (PK k) (2 ^ gT a 0 2)) (ctP PA (2 ^ gT a 0 2) - ctP (PK k) (2 ^ gT a 0 2)) := by rw [hPA, hPK]; rfl
            have hwl := wrV_le (T := gT a) (Lw := gL a) (D := gD a) (c := c) (n := n) (k := k) h7
            have e164 : μ4.1 164 (nI k).toNatClampNeg = nI (ctP (PK k) (2 ^ gT a 0 2)) := by rw [ck]; exact hs3 k hk
            generalize ctP (PK k) (2 ^ gT a 0 2) = p at *
            have esub : nI (ctP PA (2 ^ gT a 0 2)) - nI p = nI (ctP PA (2 ^ gT a 0 2) - p) := nI_subN hKA
            generalize ctP PA (2 ^ gT a 0 2) = q at *
            have h4k := (hv.2.1 k hk).2.2.2.2.2
            -- it is taken
            have take : gT a 4 k = 1 → ∀ u : Int32, u = nI (wrV (gT a) (gL a) (gD a) c n k) → (b < 0 ∨ u < w) → J l mX12_watch (jZ0 9 G (pI X)) G 0 0 172 [.ref 112, .null, .null, .null, .int (nI q), .int (nI k), .int u, .int (nI k + 1), .null] [] μ4 := by
              intro hf u hu hlt
              rw [nI_inc]
              have hless : wrV (gT a) (gL a) (gD a) c n k < (wtF (gT a) (gL a) (gD a) c n k).2 := by
                rcases hw with ⟨hb2, h2⟩ | ⟨hb0, hw2⟩
                · rw [h2]; omega
                · rcases hlt with z | z
                  · exact absurd z hb0
                  · rw [hu, hw2, i32_lt, nI_toInt (by omega), nI_toInt (by omega)] at z; omega
              have he := wtF_yes (T := gT a) (Lw := gL a) (D := gD a) (c := c) (n := n) (k := k) ⟨hf, hless⟩
              refine ih (nI k) u (by rw [he]) (Or.inr ⟨nI_pos (by omega), by rw [he]; exact hu⟩) (by rw [he]; show wrV (gT a) (gL a) (gD a) c n k ≤ 129; omega)
            -- it is left
            have leave : ¬ (gT a 4 k = 1 ∧ wrV (gT a) (gL a) (gD a) c n k < (wtF (gT a) (gL a) (gD a) c n k).2) → J l mX12_watch (jZ0 9 G (pI X)) G 0 0 172 [.ref 112, .null, .null, .null, .int (nI q), .int b, .int w, .int (nI k + 1), .null] [] μ4 := by
              intro hn
              rw [nI_inc]
              have he := wtF_no hn
              exact ih b w (by rw [he]; exact hb) (by rw [he]; exact hw) (by rw [he]; exact h129)
            have keep : ∀ u : Int32, u = nI (wrV (gT a) (gL a) (gD a) c n k) → ¬ b < 0 → ¬ u < w → ¬ (gT a 4 k = 1 ∧ wrV (gT a) (gL a) (gD a) c n k < (wtF (gT a) (gL a) (gD a) c n k).2) := by
              intro u hu hb0 hlt hh
              rcases hw with ⟨hb2, -⟩ | ⟨-, hw2⟩
              · rw [hb2] at hb0; exact hb0 (by decide)
              · refine hlt ?_
                rw [hu, hw2, i32_lt, nI_toInt (by omega), nI_toInt (by omega)]
                have := hh.2; omega
            have h1f : ¬ nI (gT a 4 k) = 0 → gT a 4 k = 1 := fun hf => by
              rcases Nat.le_one_iff_eq_zero_or_eq_one.mp h4k with e | e
              · rw [e] at hf; exact absurd rfl hf
              · exact e
            have cmp : (nI p ≤ nI (q - p)) ↔ p ≤ q - p := nI_leI (by omega) (by omega)
            refine b_X12_watch_192 hG hP3 (fun _ => vp_in_nI (by omega) (by decide)) (fun hf hc hb0 => ?_) (fun hf hc hb0 hlt => ?_) (fun hf hc hb0 hlt => ?_) (fun hf hc hb0 => ?_) (fun hf hc hb0 hlt => ?_) (fun hf hc hb0 hlt => ?_) (fun hf => leave (fun z => by rw [z.1] at hf; exact absurd hf (by decide)))
            · rw [e164, esub] at hc ⊢
              exact take (h1f hf) _ (by rw [hwr, Nat.max_eq_right (cmp.mp hc)]) (Or.inl hb0)
            · rw [e164, esub] at hc hlt ⊢
              exact take (h1f hf) _ (by rw [hwr, Nat.max_eq_right (cmp.mp hc)]) (Or.inr hlt)
            · rw [e164, esub] at hc hlt
              exact leave (keep _ (by rw [hwr, Nat.max_eq_right (cmp.mp hc)]) hb0 hlt)
            · rw [e164, esub] at hc
              rw [e164]
              exact take (h1f hf) _ (by rw [hwr, Nat.max_eq_left (by have hnc : ¬ p ≤ q - p := fun z => hc (cmp.mpr z); omega)]) (Or.inl hb0)
            · rw [e164, esub] at hc
              rw [e164] at hlt ⊢
              exact take (h1f hf) _ (by rw [hwr, Nat.max_eq_left (by have hnc : ¬ p ≤ q - p := fun z => hc (cmp.mpr z); omega)]) (Or.inr hlt)
            · rw [e164, esub] at hc
              rw [e164] at hlt
              exact leave (keep _ (by rw [hwr, Nat.max_eq_left (by have hnc : ¬ p ≤ q - p := fun z => hc (cmp.mpr z); omega)]) hb0 hlt)
        exact loop 0 (Nat.zero_le _) (-2) 0 rfl (Or.inl ⟨rfl, rfl⟩) (Nat.le_refl _)
      -- the sets
      have sets : ∀ (m : Nat), m ≤ 31 → n < m → (∀ i, i < c → ∀ d, (gD a)[i]? = some d → d.2.1 < m) → ∀ μ3, mQ μ2 μ3 → gNN μ3 → (∀ k, k < 12 → μ3.1 164 k = 0) → J l mX12_watch (jZ0 9 G (pI X)) G 0 0 70 [.ref 112, .int (nI c), .int (nI n), .int (nI m - 1), .int 0, .int 0, .null, .null, .null] [] μ3 := by
        intro m hm31 hnm hlast
        have loop : ∀ s, s ≤ 2 ^ gT a 0 2 → ∀ μ3, mQ μ2 μ3 → gNN μ3 → (∀ k, k < gT a 0 1 → μ3.1 164 k = nI (ctP (PK k) s)) → J l mX12_watch (jZ0 9 G (pI X)) G 0 0 70 [.ref 112, .int (nI c), .int (nI n), .int (nI m - 1), .int (nI (ctP PA s)), .int (nI s), .null, .null, .null] [] μ3 := by
          refine up_loop (2 ^ gT a 0 2) ?_ (fun s hs ih => ?_)
          · intro μ3 hq3 hP3 hk3
            have hm3 := hq3.now h1
            obtain ⟨n1, n2⟩ := ng_at hm3.1
            have hle : ((1 : Int32) <<< ((μ3.1 129 (μ3.1 112 18).toNatClampNeg) &&& 31)) ≤ nI (2 ^ gT a 0 2) := by rw [n2, pow_sh _ (by omega)]; exact nI_le (Nat.le_refl _) (by omega)
            exact b_X12_watch_70 (ψ1 := fun _ => True) hG hP3 n1 (fun _ => pick μ3 hq3 hP3 hk3) (fun h => absurd hle h) (fun h => absurd hle h)
          · intro μ3 hq3 hP3 hk3
            have hm3 := hq3.now h1
            obtain ⟨n1, n2⟩ := ng_at hm3.1
            have hgt : ¬ ((1 : Int32) <<< ((μ3.1 129 (μ3.1 112 18).toNatClampNeg) &&& 31)) ≤ nI s := by rw [n2, pow_sh _ (by omega)]; exact nI_ge hs (by omega)
            refine b_X12_watch_70 hG hP3 n1 (fun h => absurd h hgt) (fun _ => c_X12_fillsSeen hG hP3 hm3 hm31) (fun _ => ?_)
            rintro μ4 ⟨hq4, ho4, hm4, hP4, hw⟩
            have hq' := hq3.trans hq4
            have hd4 : dreamM μ4 (gD a) := dreamM_off hq'.1 (by decide) (by decide) (by decide) (by decide) h6
            have e164 : μ4.1 164 = μ3.1 164 := ho4.c 164 (by decide) (by decide)
            refine b_X12_watch_93 hG hP4 (c_X12_isSo hG hP4 hd4 (by omega) hD h12 hlast hw) ?_
            rintro z μ5 ⟨rfl, ⟨rfl, hR⟩ | ⟨rfl, hR⟩⟩
            · have hpa : PA s := by rw [hPA]; exact hR
              refine b_X12_watch_98 hG hP4 (fun _ => ?_) (fun h => absurd h (by decide))
              rw [nI_inc, ← ctP_yes hpa]
              have inner : ∀ k, k ≤ gT a 0 1 → ∀ μ6, mOff [164] [] μ5 μ6 → (∀ j, j < k → μ6.1 164 j = nI (ctP (PK j) (s + 1))) → (∀ j, k ≤ j → j < gT a 0 1 → μ6.1 164 j = nI (ctP (PK j) s)) → J l mX12_watch (jZ0 9 G (pI X)) G 0 0 110 [.ref 112, .int (nI c), .int (nI n), .int (nI m - 1), .int (nI (ctP PA (s + 1))), .int (nI s), .int (nI k), .null, .null] [] μ6 := by
                refine up_loop (gT a 0 1) ?_ (fun k hk ihk => ?_)
                · intro μ6 ho6 hlo6 hhi6
                  have hP6 := ho6.gNN hP4
                  have hq6 : mQ μ2 μ6 := hq'.trans ⟨ho6.mono (by decide) (by decide), fun i hi => by rw [ho6.c 152 (by decide) (by decide)]; exact hq4.2 i hi⟩
                  have hm6 := hq6.now h1
                  obtain ⟨n1, n2⟩ := nr_at hm6.1
                  have hle : μ6.1 123 (μ6.1 112 18).toNatClampNeg ≤ nI (gT a 0 1) := by rw [n2]; exact nI_le (Nat.le_refl _) (by omega)
                  refine b_X12_watch_110 hG hP6 n1 (fun _ => ?_) (fun h => absurd hle h) (fun h => absurd hle h) (fun h => absurd hle h) (fun h => absurd hle h)
                  rw [nI_inc]
                  exact ih μ6 hq6 hP6 hlo6
                · intro μ6 ho6 hlo6 hhi6
                  have hP6 := ho6.gNN hP4
                  have hq6 : mQ μ2 μ6 := hq'.trans ⟨ho6.mono (by decide) (by decide), fun i hi => by rw [ho6.c 152 (by decide) (by decide)]; exact hq4.2 i hi⟩
                  have hm6 := hq6.now h1
                  obtain ⟨n1, n2⟩ := nr_at hm6.1
                  have hgt : ¬ μ6.1 123 (μ6.1 112 18).toNatClampNeg ≤ nI k := by rw [n2]; exact nI_ge hk (by omega)
                  have ex : (12 * nI n) + nI k = nI (12 * n + k) := ix12 rfl rfl
                  have cx : ((12 * nI n) + nI k).toNatClampNeg = 12 * n + k := by rw [ex]; exact nI_clamp (by omega)
                  have ck : (nI k).toNatClampNeg = k := nI_clamp (by omega)
                  have e162 : μ6.1 162 (12 * n + k) = b01 (seB (gT a) (gL a) s n k) := by rw [ho6.c 162 (by decide) (by decide)]; exact hw n hnm k hk
                  refine b_X12_watch_110 hG hP6 n1 (fun h => absurd h hgt) (fun _ => by rw [ex]; exact vp_in_nI (by omega) (by decide)) (fun _ h => ?_) (fun _ _ => vp_in_nI (by omega) (by decide)) (fun _ h => ?_)
                  · rw [cx, e162] at h
                    have hn2 : ¬ PK k s := by
                      rw [hPK]
                      intro z
                      have z2 : seB (gT a) (gL a) s n k = true := z.2
                      rw [z2] at h; exact absurd h (by decide)
                    rw [nI_inc]
                    refine ihk μ6 ho6 (fun j hj => ?_) (fun j h1 h2 => hhi6 j (by omega) h2)
                    by_cases e : j = k
                    · rw [e, ctP_no hn2]; exact hhi6 k (Nat.le_refl _) hk
                    · exact hlo6 j (by omega)
                  · rw [cx, e162] at h
                    have hy2 : PK k s := by
                      rw [hPK]
                      refine ⟨hR, ?_⟩
                      cases e : seB (gT a) (gL a) s n k
                      · rw [e] at h; exact absurd rfl h
                      · rfl
                    rw [ck, nI_inc, hhi6 k (Nat.le_refl _) hk, nI_inc, ← ctP_yes hy2]
                    refine ihk _ (ho6.trans (mOff_wC (by decide) (by decide))) (fun j hj => ?_) (fun j h1 h2 => by rw [wI_off' (by omega)]; exact hhi6 j (by omega) h2)
                    by_cases e : j = k
                    · rw [e, wI_at]
                    · rw [wI_off' e]; exact hlo6 j (by omega)
              exact inner 0 (Nat.zero_le _) μ5 mOff.refl (fun j hj => by omega) (fun j _ h2 => by rw [e164]; exact hk3 j h2)
            · have hpa : ¬ PA s := by rw [hPA]; exact hR
              refine b_X12_watch_98 hG hP4 (fun h => absurd rfl h) (fun _ => ?_)
              rw [nI_inc, ← ctP_no hpa]
              refine ih μ5 hq' hP4 (fun k hk => ?_)
              rw [e164, ctP_no (by rw [hPK]; exact fun z => hR z.1)]; exact hk3 k hk
        intro μ3 hq3 hP3 hk3
        exact loop 0 (Nat.zero_le _) μ3 hq3 hP3 (fun k hk => by rw [hk3 k (by omega)]; rfl)
      -- the counts begin at 0
      have zero : ∀ k, k ≤ 12 → ∀ μ3, mOff [164] [] μ2 μ3 → (∀ j, j < k → μ3.1 164 j = 0) → J l mX12_watch (jZ0 9 G (pI X)) G 0 0 26 [.ref 112, .int (nI c), .int (nI n), .int (nI k), .null, .null, .null, .null, .null] [] μ3 := by
        refine up_loop 12 ?_ (fun k hk ih => ?_)
        · intro μ3 ho3 hk3
          have hP3 := ho3.gNN hP
          have hq3 : mQ μ2 μ3 := ⟨ho3.mono (by decide) (by decide), fun i hi => by rw [ho3.c 152 (by decide) (by decide)]; exact h1.2.2.1 i hi⟩
          have hd3 : dreamM μ3 (gD a) := dreamM_off ho3 (by decide) (by decide) (by decide) (by decide) h6
          have hlt := c_X12_lastTold (l := l) (c := c) hG hP3 hd3 (by omega) (fun d hd => (hD d hd).2.1)
          refine b_X12_watch_26 hG hP3 (fun _ => hlt) (fun _ => ?_) (fun h => absurd (by decide) h) (fun h => absurd (by decide) h)
          rintro z μ4 ⟨rfl, m, hm31, rfl, hlast, hme⟩
          have en : nI n = nI (n + 1) - 1 := by rw [Int32.sub_eq_add_neg, nI_dec]
          refine b_X12_watch_50 hG hP3 (fun h => ?_) (fun _ => hlt) (fun h => ?_)
          · have hle : m ≤ n + 1 := by
              rcases Nat.lt_or_ge n m with z | z
              · have : ¬ nI m - 1 < nI n := fun w => by have := (lI_lt (by omega) (by omega)).mp w; omega
                cases m with
                | zero => omega
                | succ m =>
                  have e2 : nI (m + 1) - 1 = nI m := by rw [Int32.sub_eq_add_neg, nI_dec]
                  rw [e2, i32_le, nI_toInt (by omega), nI_toInt (by omega)] at h
                  omega
              · omega
            have := sets (n + 1) (by omega) (by omega) (fun i hi d hd => by have := hlast i hi d hd; omega) μ4 hq3 hP3 hk3
            rw [← en] at this
            exact this
          · rintro z μ5 ⟨rfl, m2, hm2, rfl, hlast2, hme2⟩
            refine b_X12_watch_59 hG hP3 (sets m2 hm2 ?_ hlast2 μ5 hq3 hP3 hk3)
            rw [hme2, ← hme]
            refine Classical.byContradiction (fun z => h ?_)
            have := (lI_lt (m := m) (i := n) (by omega) (by omega)).mpr (by omega)
            rw [i32_lt] at this; rw [i32_le]; omega
        · intro μ3 ho3 hk3
          have hP3 := ho3.gNN hP
          refine b_X12_watch_26 (ψ0 := fun _ _ => True) hG hP3 (fun h => absurd h (nI_ge (b := 12) hk (by decide))) (fun h => absurd h (nI_ge (b := 12) hk (by decide))) (fun _ => vp_in_nI hk (by decide)) (fun _ => ?_)
          rw [nI_clamp (by omega), nI_inc]
          refine ih _ (ho3.trans (mOff_wC (by decide) (by decide))) (fun j hj => ?_)
          by_cases e : j = k
          · rw [e, wI_at]
          · rw [wI_off' e]; exact hk3 j (by omega)
      exact zero 0 (by omega) μ2 mOff.refl (fun j hj => by omega)
    · exact b_X12_watch_19 hG hP (fun h => absurd rfl h) (fun _ => ⟨(gIf_out hy).symm, hz⟩)
  · exact b_X12_watch_9 (ψ1 := fun _ _ => True) hG hP (fun _ => ⟨(gIf_out hx).symm, hz⟩) (fun h => absurd rfl h) (fun h => absurd rfl h)
end ModA2
