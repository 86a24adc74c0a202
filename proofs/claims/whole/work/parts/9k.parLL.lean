/-! THE REFERENCE reads a LAW: its loop -/
section ParLL
variable {l : Launch} {G : jG} {Y : List Int32} {w : Nat × Nat} {φ : jM → Prop} {q : Int32} {b0 v c00 : Nat}
theorem c_must' (hG : gMM G) {μ : jM} (hP : gNN μ) {t : Nat} (h : okM Y t w μ) {k : Nat} {z : Int32} (hz : z = nI k) (hk : k < 43 ∧ k ≠ 0 ∧ k ≠ 3) : jC0 l mX12_must 2 G [.ref 112, .int z] μ (pV fun μ' => pR (xpc Y k t) (fun t' μ' => okM Y t' w μ') mB μ' ∧ mO3 [] fF [] μ μ') := by
  refine (c_X12_must hG hP h hz (by omega)).mono (pV_mono fun μ' h' => ?_)
  cases e : xpc Y k t with
  | ok t' =>
    rw [e] at h'
    have h' : μ' = wI μ 112 11 (nI t') := h'
    obtain ⟨q1, q2, q3⟩ := xpc_w hk.2 h.2.1 h.2.2.1 e
    rw [h']
    exact ⟨okM_t h q1 q2, mO3_wF (by decide)⟩
  | error f => rw [e] at h'; exact h'
theorem c_goesOn' (hG : gMM G) {μ : jM} (hP : gNN μ) {t : Nat} (h : okM Y t w μ) (hk : kd Y t ≠ 0 ∧ kd Y t ≠ 3) : jC0 l mX12_goesOn 1 G [.ref 112] μ (pV fun μ' => pR (tke Y t) (fun t' μ' => okM Y t' w μ') mB μ' ∧ mO3 [] fF [] μ μ') := by
  refine (c_X12_goesOn hG hP h).mono (pV_mono fun μ' h' => ?_)
  cases e : tke Y t with
  | ok t' =>
    rw [e] at h'
    have h' : μ' = wI μ 112 11 (nI t') := h'
    obtain ⟨q1, q2, q3⟩ := tke_w hk h.2.1 h.2.2.1 e
    rw [h']
    exact ⟨okM_t h q1 q2, mO3_wF (by decide)⟩
  | error f => rw [e] at h'; exact h'
def lwT (Y : List Int32) (n t : Nat) (L : sLaw) : Except pF (Nat × sLaw) := bd (lwL Y n t L) fun r => bd (xpc Y 4 r.1) fun t4 => .ok (t4, r.2)
/-- a LAW that is read -/
def lwR (Y : List Int32) (w : Nat × Nat) (v b0 c00 : Nat) (s : Nat × sLaw) (μ : jM) : Prop := okM Y s.1 w μ ∧ μ.1 112 12 = 0 ∧ μ.1 112 42 = nI (b0 + s.2.length) ∧ ∃ c', μ.1 112 48 = nI c' ∧ c00 ≤ c' ∧ c' ≤ 420 * v + s.1 ∧ lX μ b0 s.2 c00 c'
theorem law_fin (hG : gMM G) (hv2 : v < 2) (hb0 : 130 * v ≤ b0) {t : Nat} {L : sLaw} {c : Nat} {x3 : Int32} {μ : jM} (hP : gNN μ) (h : okM Y t w μ) (h12 : μ.1 112 12 = 0) (h42 : μ.1 112 42 = nI (b0 + L.length)) (h48 : μ.1 112 48 = nI c) (hcc : c00 ≤ c) (hc : c ≤ 420 * v + t) (hX : lX μ b0 L c00 c) (hbt : 4 * b0 + 4 * L.length ≤ 520 * v + t)
    (Kb : ∀ e μ', (bd (exS Y t) fun r => bd (xpc Y 4 r.1) fun t4 => (.ok (t4, L ++ [(none, r.2)]) : Except pF (Nat × sLaw))) = .error e → lwQ v (b0 + L.length) c e μ μ' → φ μ')
    (Ko : ∀ s μ', (bd (exS Y t) fun r => bd (xpc Y 4 r.1) fun t4 => (.ok (t4, L ++ [(none, r.2)]) : Except pF (Nat × sLaw))) = .ok s → lwR Y w v b0 c00 s μ' → lO v (b0 + L.length) c μ μ' → J l mX12_tellLaw (jZ0 5 G (pV φ)) G 0 0 148 [.ref 112, .int q, .int (nI b0), .null] [] μ') :
    J l mX12_tellLaw (jZ0 5 G (pV φ)) G 0 0 25 [.ref 112, .int q, .int (nI b0), .int x3] [.int 0] μ := by
  have ht := h.2.1.1
  have cb : (μ.1 112 42).toNatClampNeg = b0 + L.length := by rw [h42]; exact nI_clamp (by omega)
  have o1 : lO v (b0 + L.length) c μ (wI μ 141 (b0 + L.length) (vp_nar .boolean 0)) := lO_w (by decide) (by decide) (Nat.le_refl _) (by omega)
  have q1 : mO3 [141] [] [] μ (wI μ 141 (b0 + L.length) (vp_nar .boolean 0)) := mO3_wC (by decide) (by decide)
  have P1 := q1.gNN hP
  refine b_X12_tellLaw_25 (ψ1 := fun _ => True) (ψ3 := fun _ => True) hG hP (fun _ => by rw [h42]; exact vp_in_nI (by omega) (by decide)) (fun _ => by rw [cb]; exact c_X12_term (v := v) (b := b0 + L.length) hG P1 (okM_off h q1) (by rw [q1.f 12]; exact h12) (by rw [q1.f 42]; exact h42) (by omega) hv2 (by rw [q1.f 48]; exact h48) hc) (fun _ μ2 h2 => ?_) (fun z => absurd rfl z) (fun z => absurd rfl z) (fun z => absurd rfl z) (fun z => absurd rfl z) (fun z => absurd rfl z)
  obtain ⟨h2, e42, o2⟩ := h2
  have P2 := o2.1.gNN P1
  have oo := o1.trans o2
  cases e : exS Y t with
  | error f =>
    rw [e] at h2 Kb
    exact lb143 (b := b0 + L.length) (c := c) hG P2 h2 (fun μ3 h3 => Kb f μ3 rfl ⟨h3.1, oo.trans h3.2⟩)
  | ok r =>
    rw [e] at h2
    obtain ⟨⟨r1, r2, r3, r4⟩, f4, f5, f1⟩ := pR_ok h2 rfl
    obtain ⟨eok, hlt⟩ := exS_ok h.2.1.1 h.2.1.2 e
    have hlen := eok.2.2.2
    rw [e] at Kb Ko
    refine b_X12_tellLaw_143 hG P2 (c_must' hG P2 r1 (k := 4) rfl (by decide)) (fun μ3 h3 => ?_)
    obtain ⟨h3, o3⟩ := h3
    have P3 := o3.gNN P2
    have oo3 := oo.trans (lO_3 o3 (by decide))
    cases ex : xpc Y 4 r.1 with
    | error f =>
      have m3 : mB f μ3 := pR_er h3 ex
      exact b_X12_tellLaw_148 hG P3 (fun z => absurd z (mB_13 m3).2.1) (fun z => absurd z (mB_13 m3).2.1) (fun _ => Kb f μ3 (by rw [bd_ok, ex]; rfl) ⟨m3, oo3⟩)
    | ok t4 =>
      have k3 := pR_ok h3 ex
      obtain ⟨-, ht4, -⟩ := xpc_ok ex
      refine Ko (t4, L ++ [(none, r.2)]) μ3 (by rw [bd_ok, ex]; rfl) ⟨k3, by rw [o3.f 12]; exact r2, by rw [o3.f 42, e42]; congr 1; simp; omega, c + r.2.length, by rw [o3.f 48]; exact r3, by omega, by show _ ≤ 420 * v + t4; omega, ?_⟩ oo3
      refine lX_app ?_ ?_
      · have := lX_o hX oo3 (Nat.le_refl _)
        exact fun j br hj => brX_m (Nat.le_refl _) (by omega) (this j br hj)
      · refine ⟨c, ⟨hcc, Nat.le_refl _⟩, ?_, ?_, ?_, ?_⟩
        · rw [o3.c 146, o3.c 147]; exact r4
        · rw [o3.c 144]; exact f4
        · rw [o3.c 145]; exact f5
        · rw [o3.c 141, f1 141 (by decide) (by decide), wI_at]; decide
theorem law_loop (hG : gMM G) (hv2 : v < 2) (hb0 : 130 * v ≤ b0) : ∀ (n t : Nat) (L : sLaw) (c : Nat) (μ : jM), n ≤ 4 → gNN μ → okM Y t w μ → μ.1 112 12 = 0 → μ.1 112 42 = nI (b0 + L.length) → μ.1 112 48 = nI c → c00 ≤ c → c ≤ 420 * v + t → lX μ b0 L c00 c → 4 * b0 + 4 * L.length ≤ 520 * v + t →
    (∀ e μ', lwT Y (n + 1) t L = .error e → lwQ v (b0 + L.length) c e μ μ' → φ μ') → (∀ s μ', lwT Y (n + 1) t L = .ok s → lwR Y w v b0 c00 s μ' → lO v (b0 + L.length) c μ μ' → J l mX12_tellLaw (jZ0 5 G (pV φ)) G 0 0 148 [.ref 112, .int q, .int (nI b0), .null] [] μ') →
    J l mX12_tellLaw (jZ0 5 G (pV φ)) G 0 0 12 [.ref 112, .int q, .int (nI b0), .int (nI (4 - n))] [] μ := by
  intro n
  induction n with
  | zero =>
    intro t L c μ hn hP h h12 h42 h48 hcc hc hX hbt Kb Ko
    have ht := h.2.1.1
    refine b_X12_tellLaw_12 (ψ0 := fun _ => True) hG hP (fun z => absurd (okM_13 h).1 z) (fun z => absurd (okM_13 h).1 z) (fun z => absurd (okM_13 h).1 z) (fun _ => c_X12_is hG hP h (k := 31) rfl (by decide)) (fun _ v1 μ1 h1 => ?_)
    obtain ⟨rfl, rfl⟩ := h1
    by_cases hk : kd Y t = 31
    · have hlw : lwT Y 1 t L = .error (2, pl Y t) := by unfold lwT lwL; rw [if_pos hk, if_pos rfl]; rfl
      rw [decide_eq_true hk]
      have hne : ¬ b01 true = 0 := by decide
      refine b_X12_tellLaw_25 (ψ0 := fun _ => True) (ψ1 := fun _ => True) hG hP (fun z => absurd z hne) (fun z => absurd z hne) (fun z => absurd z hne) (fun _ z => absurd rfl z) (fun _ z => absurd rfl z) (fun _ z => absurd rfl z) (fun _ _ => c_X12_fail hG hP h (k := 2) rfl (Or.inr rfl)) (fun _ _ μ2 h2 => ?_)
      refine b_X12_tellLaw_38 (ψ0 := fun _ => True) hG (h2.2.gNN hP) (fun z => absurd z (mB_13 h2.1).2.1) (fun z => absurd z (mB_13 h2.1).2.1) (fun _ => Kb _ μ2 hlw ⟨h2.1, lO_3 h2.2 (by decide)⟩)
    · have hlw : lwT Y 1 t L = bd (exS Y t) fun r => bd (xpc Y 4 r.1) fun t4 => .ok (t4, L ++ [(none, r.2)]) := by unfold lwT lwL; rw [if_neg hk, bd_bd]; rfl
      rw [decide_eq_false hk]
      exact law_fin hG hv2 hb0 hP h h12 h42 h48 hcc hc hX hbt (fun e μ' he => Kb e μ' (by rw [hlw]; exact he)) (fun s μ' he => Ko s μ' (by rw [hlw]; exact he))
  | succ n ih =>
    intro t L c μ hn hP h h12 h42 h48 hcc hc hX hbt Kb Ko
    have ht := h.2.1.1
    refine b_X12_tellLaw_12 (ψ0 := fun _ => True) hG hP (fun z => absurd (okM_13 h).1 z) (fun z => absurd (okM_13 h).1 z) (fun z => absurd (okM_13 h).1 z) (fun _ => c_X12_is hG hP h (k := 31) rfl (by decide)) (fun _ v1 μ1 h1 => ?_)
    obtain ⟨rfl, rfl⟩ := h1
    by_cases hk : kd Y t = 31
    · have hlw : lwT Y (n + 1 + 1) t L = bd (tke Y t) fun t1 => bd (exS Y t1) fun e1 => bd (xpc Y 13 e1.1) fun t2 => bd (exS Y t2) fun e2 => bd (xpc Y 32 e2.1) fun t3 => bd (exS Y t3) fun e3 => bd (xpc Y 33 e3.1) fun t4 => lwT Y (n + 1) t4 (L ++ [(some (e1.2, e2.2), e3.2)]) := by
        have hne : ¬ n + 1 = 0 := by omega
        unfold lwT
        conv => lhs; unfold lwL
        rw [if_pos hk, if_neg hne]
        simp only [bd_bd]
      rw [hlw] at Kb Ko
      rw [decide_eq_true hk]
      have hne : ¬ b01 true = 0 := by decide
      have h4 : ¬ nI (4 - (n + 1)) = 4 := fun z => by have := (nI_eq (a := 4 - (n + 1)) (b := 4) (by omega) (by decide)).mp z; omega
      refine b_X12_tellLaw_25 (ψ0 := fun _ => True) (ψ3 := fun _ => True) hG hP (fun z => absurd z hne) (fun z => absurd z hne) (fun z => absurd z hne) (fun _ _ _ => c_goesOn' hG hP h (by omega)) (fun _ _ _ μ2 h2 => ?_) (fun _ _ z => absurd (okM_13 h).2.1 z) (fun _ z => absurd z h4) (fun _ z => absurd z h4)
      rw [nI_inc, show 4 - (n + 1) + 1 = 4 - n by omega]
      obtain ⟨h2, o2⟩ := h2
      have P2 := o2.gNN hP
      have f42 : μ2.1 112 42 = nI (b0 + L.length) := by rw [o2.f 42]; exact h42
      cases et : tke Y t with
      | error f =>
        rw [et] at Kb
        exact lb53 (b := b0 + L.length) (c := c) hG P2 (pR_er h2 et) f42 (by omega) (Nat.le_refl _) hv2 (fun μ3 h3 => Kb f μ3 rfl ⟨h3.1, (lO_3 o2 (by decide)).trans h3.2⟩)
      | ok t1 =>
        have k2 := pR_ok h2 et
        obtain ⟨e1t, -⟩ := tke_ok et
        rw [et, bd_ok] at Kb Ko
        have ht1 := k2.2.1.1
        have cb : (μ2.1 112 42).toNatClampNeg = b0 + L.length := by rw [f42]; exact nI_clamp (by omega)
        have e48 : μ2.1 112 48 = nI c := by rw [o2.f 48]; exact h48
        have oa : lO v (b0 + L.length) c μ2 (wI μ2 141 (b0 + L.length) (vp_nar .boolean 1)) := lO_w (by decide) (by decide) (Nat.le_refl _) (by omega)
        have ob : lO v (b0 + L.length) c (wI μ2 141 (b0 + L.length) (vp_nar .boolean 1)) (wI (wI μ2 141 (b0 + L.length) (vp_nar .boolean 1)) 142 (b0 + L.length) (μ2.1 112 48)) := lO_w (by decide) (by decide) (Nat.le_refl _) (by omega)
        have qa : mO3 [141, 142] [] [] μ2 (wI (wI μ2 141 (b0 + L.length) (vp_nar .boolean 1)) 142 (b0 + L.length) (μ2.1 112 48)) := (mO3_wC (by decide) (by decide)).trans (mO3_wC (by decide) (by decide))
        have Pa := qa.gNN P2
        have oo2 := ((lO_3 (v := v) (b := b0 + L.length) (c := c) o2 (by decide)).trans oa).trans ob
        refine b_X12_tellLaw_53 hG P2 (by rw [f42]; exact vp_in_nI (by omega) (by decide)) (by rw [cb]; exact c_X12_expression (hi := 420 * v + 401) (c0 := c) hG (by omega) (by omega) Pa (okM_off k2 qa) (by rw [qa.f 12, o2.f 12]; exact h12) (by rw [qa.f 48]; exact e48)) (fun μ3 h3 => ?_)
        obtain ⟨h3, o3⟩ := h3
        have P3 := o3.1.gNN Pa
        have oo3 := oo2.trans (lO_e o3 (by decide))
        have f42' : μ3.1 112 42 = nI (b0 + L.length) := by rw [o3.1.f 42 (by decide), qa.f 42]; exact f42
        have g1 : ¬ μ3.1 141 (b0 + L.length) = 0 := by rw [o3.1.c 141, wI_ne (by decide), wI_at]; decide
        have g2 : μ3.1 142 (b0 + L.length) = nI c := by rw [o3.1.c 142, wI_at]; exact e48
        cases e1 : exS Y t1 with
        | error f =>
          rw [e1] at Kb
          exact lb80 (b := b0 + L.length) (c := c) hG P3 (pR_er h3 e1) f42' (by omega) (Nat.le_refl _) hv2 (fun μ4 h4 => Kb f μ4 rfl ⟨h4.1, oo3.trans h4.2⟩)
        | ok r =>
          obtain ⟨r1, r2, r3, r4⟩ := pR_ok h3 e1
          obtain ⟨eok, hlt⟩ := exS_ok k2.2.1.1 k2.2.1.2 e1
          have hlen := eok.2.2.2
          rw [e1, bd_ok] at Kb Ko
          refine b_X12_tellLaw_80 hG P3 (c_must' hG P3 r1 (k := 13) rfl (by decide)) (fun μ4 h4 => ?_)
          obtain ⟨h4', o4⟩ := h4
          have P4 := o4.gNN P3
          have oo4 := oo3.trans (lO_3 o4 (by decide))
          have f42a : μ4.1 112 42 = nI (b0 + L.length) := by rw [o4.f 42]; exact f42'
          cases e2 : xpc Y 13 r.1 with
          | error f =>
            rw [e2] at Kb
            exact lb86 (b := b0 + L.length) (c := c) hG P4 (pR_er h4' e2) f42a (by omega) (Nat.le_refl _) hv2 (fun μ5 h5 => Kb f μ5 rfl ⟨h5.1, oo4.trans h5.2⟩)
          | ok t2 =>
            have k4 := pR_ok h4' e2
            obtain ⟨-, e2t, -⟩ := xpc_ok e2
            rw [e2, bd_ok] at Kb Ko
            have e48a : μ4.1 112 48 = nI (c + r.2.length) := by rw [o4.f 48]; exact r3
            have cb4 : (μ4.1 112 42).toNatClampNeg = b0 + L.length := by rw [f42a]; exact nI_clamp (by omega)
            have oc : lO v (b0 + L.length) c μ4 (wI μ4 143 (b0 + L.length) (μ4.1 112 48)) := lO_w (by decide) (by decide) (Nat.le_refl _) (by omega)
            have qc : mO3 [143] [] [] μ4 (wI μ4 143 (b0 + L.length) (μ4.1 112 48)) := mO3_wC (by decide) (by decide)
            have Pc := qc.gNN P4
            have ht2 := k4.2.1.1
            refine b_X12_tellLaw_86 (ψ0 := fun _ => True) hG P4 (by rw [f42a]; exact vp_in_nI (by omega) (by decide)) (fun z => absurd (okM_13 k4).1 z) (fun z => absurd (okM_13 k4).1 z) (fun _ => by rw [cb4]; exact c_X12_expression (hi := 420 * v + 401) (c0 := c + r.2.length) hG (by omega) (by omega) Pc (okM_off k4 qc) (by rw [qc.f 12, o4.f 12]; exact r2) (by rw [qc.f 48]; exact e48a)) (fun _ μ5 h5 => ?_)
            obtain ⟨h5, o5⟩ := h5
            have P5 := o5.1.gNN Pc
            have oo5 := (oo4.trans oc).trans ((lO_e o5 (by decide)).mono (Nat.le_refl _) (by omega))
            have f42b : μ5.1 112 42 = nI (b0 + L.length) := by rw [o5.1.f 42 (by decide), qc.f 42]; exact f42a
            have g3 : μ5.1 143 (b0 + L.length) = nI (c + r.2.length) := by rw [o5.1.c 143, wI_at]; exact e48a
            cases e3 : exS Y t2 with
            | error f =>
              rw [e3] at Kb
              exact lb110 (b := b0 + L.length) (c := c) hG P5 (pR_er h5 e3) f42b (by omega) (Nat.le_refl _) hv2 (fun μ6 h6 => Kb f μ6 rfl ⟨h6.1, oo5.trans h6.2⟩)
            | ok s =>
              obtain ⟨s1, s2, s3, s4⟩ := pR_ok h5 e3
              obtain ⟨eok2, hlt2⟩ := exS_ok k4.2.1.1 k4.2.1.2 e3
              have hlen2 := eok2.2.2.2
              rw [e3, bd_ok] at Kb Ko
              refine b_X12_tellLaw_110 hG P5 (c_must' hG P5 s1 (k := 32) rfl (by decide)) (fun μ6 h6 => ?_)
              obtain ⟨h6, o6⟩ := h6
              have P6 := o6.gNN P5
              have oo6 := oo5.trans (lO_3 o6 (by decide))
              have f42c : μ6.1 112 42 = nI (b0 + L.length) := by rw [o6.f 42]; exact f42b
              cases e4 : xpc Y 32 s.1 with
              | error f =>
                rw [e4] at Kb
                exact lb116 (b := b0 + L.length) (c := c) hG P6 (pR_er h6 e4) f42c (by omega) (Nat.le_refl _) hv2 (fun μ7 h7 => Kb f μ7 rfl ⟨h7.1, oo6.trans h7.2⟩)
              | ok t3 =>
                have k6 := pR_ok h6 e4
                obtain ⟨-, e4t, -⟩ := xpc_ok e4
                rw [e4, bd_ok] at Kb Ko
                have e48c : μ6.1 112 48 = nI (c + r.2.length + s.2.length) := by rw [o6.f 48]; exact s3
                have ht3 := k6.2.1.1
                refine b_X12_tellLaw_116 hG P6 (c_X12_term (v := v) (b := b0 + L.length) hG P6 k6 (by rw [o6.f 12]; exact s2) f42c (by omega) hv2 e48c (by omega)) (fun μ7 h7 => ?_)
                obtain ⟨h7, f42d, o7⟩ := h7
                have P7 := o7.1.gNN P6
                have oo7 := oo6.trans (o7.mono (Nat.le_refl _) (by omega))
                cases e5 : exS Y t3 with
                | error f =>
                  rw [e5] at Kb
                  exact lb120 (b := b0 + L.length) (c := c) hG P7 (pR_er h7 e5) f42d (by omega) (by omega) hv2 (fun μ8 h8 => Kb f μ8 rfl ⟨h8.1, oo7.trans h8.2⟩)
                | ok u =>
                  obtain ⟨⟨u1, u2, u3, u4⟩, f4, f5, f1⟩ := pR_ok h7 e5
                  obtain ⟨eok3, hlt3⟩ := exS_ok k6.2.1.1 k6.2.1.2 e5
                  have hlen3 := eok3.2.2.2
                  rw [e5, bd_ok] at Kb Ko
                  refine b_X12_tellLaw_120 hG P7 (c_must' hG P7 u1 (k := 33) rfl (by decide)) (fun μ8 h8 => ?_)
                  obtain ⟨h8, o8⟩ := h8
                  have P8 := o8.gNN P7
                  have oo8 := oo7.trans (lO_3 o8 (by decide))
                  have f42e : μ8.1 112 42 = nI (b0 + L.length + 1) := by rw [o8.f 42]; exact f42d
                  cases e6 : xpc Y 33 u.1 with
                  | error f =>
                    rw [e6] at Kb
                    exact b_X12_tellLaw_126 hG P8 (lb12 (b := b0 + L.length) (c := c) hG P8 (pR_er h8 e6) f42e (by omega) (by omega) hv2 (fun μ9 h9 => Kb f μ9 rfl ⟨h9.1, oo8.trans h9.2⟩))
                  | ok t4 =>
                    have k8 := pR_ok h8 e6
                    obtain ⟨-, e6t, -⟩ := xpc_ok e6
                    rw [e6, bd_ok] at Kb Ko
                    have ll : (L ++ [(some (r.2, s.2), u.2)]).length = L.length + 1 := by simp
                    have hi : ∀ {i : Nat}, i < c + r.2.length + s.2.length → μ8.1 146 i = μ5.1 146 i ∧ μ8.1 147 i = μ5.1 147 i := fun {i} hi => by
                      rw [o8.c 146, o8.c 147, ← o6.c 146, ← o6.c 147]; exact o7.2.1 i (Or.inl hi)
                    have hi2 : ∀ {i : Nat}, i < c + r.2.length → μ8.1 146 i = μ3.1 146 i ∧ μ8.1 147 i = μ3.1 147 i := fun {i} hi' => by
                      obtain ⟨x1, x2⟩ := hi (i := i) (by omega)
                      obtain ⟨y1, y2⟩ := o5.2 i (Or.inl hi')
                      rw [x1, x2, y1, y2, qc.c 146, qc.c 147, o4.c 146, o4.c 147]; exact ⟨rfl, rfl⟩
                    refine b_X12_tellLaw_126 hG P8 (ih t4 (L ++ [(some (r.2, s.2), u.2)]) (c + r.2.length + s.2.length + u.2.length) μ8 (by omega) P8 k8 (by rw [o8.f 12]; exact u2) (by rw [f42e]; congr 1; rw [ll]; omega) (by rw [o8.f 48]; exact u3) (by omega) (by omega) (lX_app (fun j br hj => brX_m (Nat.le_refl _) (by omega) (lX_o hX oo8 (Nat.le_refl _) j br hj)) ⟨c, ⟨hcc, Nat.le_refl _⟩, ⟨?_, ?_, ?_⟩, ?_, ?_, ?_, ?_, ?_⟩) (by rw [ll]; omega) (fun e μ' he h' => Kb e μ' he ⟨h'.1, oo8.trans (h'.2.mono (by rw [ll]; omega) (by omega))⟩) (fun s' μ' he h' o' => Ko s' μ' he h' (oo8.trans (o'.mono (by rw [ll]; omega) (by omega)))))
                    · exact seg_c (fun i q1 q2 => hi2 (by show i < c + r.2.length; omega)) r4
                    · exact seg_c (fun i q1 q2 => hi (by show i < c + r.2.length + s.2.length; omega)) s4
                    · rw [o8.c 146, o8.c 147]; exact u4
                    · rw [o8.c 142, f1 142 (by decide) (by decide), o6.c 142, o5.1.c 142, wI_ne (by decide), o4.c 142]; exact g2
                    · rw [o8.c 143, f1 143 (by decide) (by decide), o6.c 143]; exact g3
                    · rw [o8.c 144]; exact f4
                    · rw [o8.c 145]; exact f5
                    · rw [o8.c 141, f1 141 (by decide) (by decide), o6.c 141, o5.1.c 141, wI_ne (by decide), o4.c 141]; exact g1
    · have hlw : lwT Y (n + 1 + 1) t L = bd (exS Y t) fun r => bd (xpc Y 4 r.1) fun t4 => .ok (t4, L ++ [(none, r.2)]) := by
        unfold lwT
        conv => lhs; unfold lwL
        rw [if_neg hk, bd_bd]; rfl
      rw [decide_eq_false hk]
      exact law_fin hG hv2 hb0 hP h h12 h42 h48 hcc hc hX hbt (fun e μ' he => Kb e μ' (by rw [hlw]; exact he)) (fun s μ' he => Ko s μ' (by rw [hlw]; exact he))
/-- what a LAW writes beside -/
def lO2 (v b c i : Nat) (μ μ' : jM) : Prop := mO3 [139, 140, 141, 142, 143, 144, 145, 146, 147, 148] (42 :: fE) [] μ μ' ∧ (∀ i, (i < c ∨ 420 * v + 401 ≤ i) → μ'.1 146 i = μ.1 146 i ∧ μ'.1 147 i = μ.1 147 i) ∧ (∀ cc, 141 ≤ cc → cc ≤ 145 → ∀ i, (i < b ∨ 130 * v + 110 ≤ i) → μ'.1 cc i = μ.1 cc i) ∧ ∀ j, j ≠ i → μ'.1 139 j = μ.1 139 j ∧ μ'.1 140 j = μ.1 140 j
theorem lO2_o {v b c i : Nat} {μ μ' : jM} (h : lO v b c μ μ') : lO2 v b c i μ μ' := ⟨h.1.mono (by decide) (fun _ z => z) (fun _ z => z), h.2.1, h.2.2, fun j _ => by rw [h.1.c 139, h.1.c 140]; exact ⟨rfl, rfl⟩⟩
theorem c_X12_tellLaw (hG : gMM G) {μ : jM} (hP : gNN μ) {t : Nat} (h : okM Y t w μ) (h12 : μ.1 112 12 = 0) {k c : Nat} (hv2 : v < 2) (hb0 : 130 * v ≤ b0) (h19 : μ.1 112 19 = nI v) (h42 : μ.1 112 42 = nI b0) (h48 : μ.1 112 48 = nI c) (hc : c ≤ 420 * v + t) (hbt : 4 * b0 ≤ 520 * v + t) (hk3 : k < 3) {z : Int32} (hz : z = nI k) : jC0 l mX12_tellLaw 5 G [.ref 112, .int z] μ (pV fun μ' => pR (bd (xpc Y 5 t) fun t2 => lwT Y 5 t2 []) (fun s μ' => lwR Y w v b0 c s μ' ∧ μ'.1 139 (3 * v + k) = nI b0 ∧ μ'.1 140 (3 * v + k) = nI (b0 + s.2.length)) mB μ' ∧ lO2 v b0 c (3 * v + k) μ μ') := by
  subst hz
  refine jC0.of' (ls := [.ref 112, .int (nI k), .null, .null]) rfl rfl rfl (fun _ _ => Nat.le_of_ble_eq_true rfl) ?_
  refine b_X12_tellLaw_0 hG hP (c_must' hG hP h (k := 5) rfl (by decide)) (fun μ1 h1 => ?_)
  obtain ⟨h1, o1⟩ := h1
  have P1 := o1.gNN hP
  have f42 : μ1.1 112 42 = nI b0 := by rw [o1.f 42]; exact h42
  have ht := h.2.1.1
  refine b_X12_tellLaw_5 hG P1 ?_
  rw [f42]
  cases e : xpc Y 5 t with
  | error f =>
    exact lb12 (b := b0) (c := c) hG P1 (pR_er h1 e) f42 (by omega) (Nat.le_refl _) hv2 (fun μ2 h2 => ⟨h2.1, lO2_o ((lO_3 o1 (by decide)).trans h2.2)⟩)
  | ok t2 =>
    have k1 := pR_ok h1 e
    obtain ⟨-, et, -⟩ := xpc_ok e
    rw [bd_ok]
    refine law_loop (c00 := c) hG hv2 hb0 4 t2 [] c μ1 (Nat.le_refl _) P1 k1 (by rw [o1.f 12]; exact h12) f42 (by rw [o1.f 48]; exact h48) (Nat.le_refl _) (by omega) (fun j br hj => by simp at hj) (by show 4 * b0 + 4 * 0 ≤ _; omega) (fun e' μ2 he h2 => ⟨by rw [he]; exact h2.1, lO2_o ((lO_3 o1 (by decide)).trans h2.2)⟩) (fun s μ2 he h2 o2 => ?_)
    have P2 := o2.1.gNN P1
    have oo : lO v b0 c μ μ2 := (lO_3 o1 (by decide)).trans o2
    have e19 : μ2.1 112 19 = nI v := by rw [oo.1.f 19 (by decide)]; exact h19
    have ei : 3 * μ2.1 112 19 + nI k = nI (3 * v + k) := by rw [e19, show (3 : Int32) = nI 3 from rfl, pk_mul, nI_add]
    refine b_X12_tellLaw_148 hG P2 (fun _ => by rw [ei]; exact vp_in_nI (by omega) (by decide)) (fun _ => ?_) (fun z => absurd (okM_13 h2.1).2.1 z)
    rw [ei, nI_clamp (by omega)]
    have q3 : mO3 [139, 140] [] [] μ2 (wI (wI μ2 139 (3 * v + k) (nI b0)) 140 (3 * v + k) (μ2.1 112 42)) := (mO3_wC (by decide) (by decide)).trans (mO3_wC (by decide) (by decide))
    obtain ⟨s1, s2, s3, c', s4, s5, s6, s7⟩ := h2
    refine ⟨?_, ?_⟩
    · rw [he]
      refine ⟨⟨okM_off s1 q3, by rw [q3.f 12]; exact s2, by rw [q3.f 42]; exact s3, c', by rw [q3.f 48]; exact s4, s5, s6, fun j br hj => brX_c (fun cc a b => ?_) (fun i _ _ => by rw [q3.c 146, q3.c 147]; exact ⟨rfl, rfl⟩) (s7 j br hj)⟩, ?_, ?_⟩
      · rw [q3.2.1 cc (by omega) (fun z => by simp at z; omega)]
      · rw [wI_ne (by decide), wI_at]
      · rw [wI_at]; exact s3
    · refine ⟨(oo.1.mono (by decide) (fun _ z => z) (fun _ z => z)).trans (q3.mono (by decide) (by decide) (fun _ z => z)), fun i hi => ?_, fun cc a b i hi => ?_, fun j hj => ?_⟩
      · rw [q3.c 146, q3.c 147]; exact oo.2.1 i hi
      · rw [q3.2.1 cc (by omega) (fun z => by simp at z; omega)]; exact oo.2.2 cc a b i hi
      · rw [wI_ne (by decide), wI_off' hj, wI_off' hj, wI_ne (by decide), oo.1.c 139, oo.1.c 140]; exact ⟨rfl, rfl⟩
end ParLL
