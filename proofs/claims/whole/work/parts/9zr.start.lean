/-! THE LAW: its start -/
theorem pTold_lt {a f x : Nat} (h : pTold a f = some x) : a < 21 := by
  unfold pTold at h
  split at h <;> first | omega | cases h
theorem gCl : gC.length = 112 := by decide +kernel
theorem gMl : gM.length = 167 := by decide +kernel
theorem lowE_cJ {a : aS} {B : Nat} {μ μ' : jM} (h : lowE μ μ') (hc0 : cJ gC a B 91 70 μ) : cJ gM a B 91 70 μ' := by
  have hc := cJ_ext (G' := gM) (gMM.C (fun _ _ h => h)) hc0
  have h8' := hc0.2.2.2.2.2.2.2.1
  obtain ⟨h1, ⟨hd, hdt, hd7, hdo⟩, h3, h4, h5, h6, h7, h8, h9, h10⟩ := hc
  have ec : ∀ c, c < 112 → μ'.1 c = μ.1 c := fun c hc => (h c hc).1
  have er : ∀ c, c < 112 → μ'.2.2 c = μ.2.2 c := fun c hc => (h c hc).2.2
  have tt : ∀ t, t = 70 ∨ t = 91 → tO gTold pTold gM μ t → tO gTold pTold gM μ' t := fun t ht ho => ⟨ho.1, fun a f x hx => by rw [er (t + a) (by have := pTold_lt hx; omega)]; exact ho.2 a f x hx⟩
  refine ⟨⟨peI_mv h1.1 (tt 91 (Or.inr rfl) h1.1.1) (by rw [er 12 (by decide)]; exact h1.1.2.1) (fun c hc => ⟨(h c (by omega)).1, (h c (by omega)).2.1⟩), by rw [ec 53 (by decide)]; exact h1.2.1, h1.2.2.1, by rw [ec 59 (by decide)]; exact h1.2.2.2⟩, ⟨hd, hdt, by rw [er 0 (by decide)]; exact hd7, tt 70 (Or.inl rfl) hdo⟩, ?_, by rw [ec 0 (by decide)]; exact h4, ?_, ?_, ?_, ?_, by rw [ec 65 (by decide)]; exact h9, ?_⟩
  · unfold tapeC at h3 ⊢; rw [ec 1 (by decide), ec 2 (by decide)]; exact h3
  · unfold histC at h5 ⊢; rw [ec 54 (by decide), ec 55 (by decide)]; exact h5
  · unfold slotC at h6 ⊢; rw [ec 54 (by decide), ec 56 (by decide)]; exact h6
  · unfold dreamC at h7 ⊢; rw [ec 63 (by decide), ec 66 (by decide), ec 67 (by decide), ec 68 (by decide)]; exact h7
  · unfold lrC at h8' ⊢
    rcases h8' with h | ⟨so, wr, m, e1, e2, e3, e4, e5, -⟩
    · exact Or.inl (by rw [er 63 (by decide), ec 63 (by decide)]; exact h)
    · have := (List.getElem?_eq_some_iff.mp e3).1
      rw [gCl] at this
      omega
  · unfold anI at h10 ⊢; rw [ec 57 (by decide), ec 60 (by decide), ec 61 (by decide)]; exact h10
theorem lw0 {μ μ' : jM} (h : lowE μ μ') (P : gPP μ) (hc : cJ gC a0 0 91 70 μ) (kc : kwC μ) (vk : vK μ) (N : gNN μ') (hm : mI a0 μ') (km : kwM μ') (cl : jCl gM μ') : lwI gM a0 0 μ' := by
  have c2 := lowE_cJ h hc
  refine ⟨⟨fun _ _ h => h, gMM.C (fun _ _ h => h), by rw [gMl]; exact Nat.le_refl _⟩, ⟨91, 70, c2⟩, hm, ⟨okR_of c2 hm, fun R hR => absurd hR List.not_mem_nil, fun s _ hs => absurd hs Bool.false_ne_true, fun d hd => absurd hd List.not_mem_nil⟩, fun b hb => absurd hb List.not_mem_nil, ⟨fun a f x hx => ?_, N⟩, ⟨?_, fun d hd q hq i hi => ?_, km⟩, cl⟩
  · rw [(h a (gP_112 hx)).2.2]; exact P a f x hx
  · unfold kwC at kc ⊢; rw [(h 8 (by decide)).2.1]; exact kc
  · rw [(h (lw d q) (by unfold lw; omega)).1]; exact vk d hd q hq i hi
section LawJ
variable {l : Launch} {L : Nat} {xs : Nat → Int32}
theorem l_new {M : jMt} {Z : jZ} {G : jG} {k n pc q g ci idx N : Nat} {ls st : List Value} {μ : jM} {C : String} {T : u_T} (hg : G.length = g) (hd : decode M.2.1 pc = .ok (.new idx, 3)) (hq : pc + 3 = q) (hc : jcl[ci]? = some (C, T, N)) (hw : Cond.classLink M.1.cls idx C ∈ jtbl) (hin : Cond.instantiable C N ∈ jtbl) (hini : Cond.initialized C ∈ jtbl) (hce : k + 1 ≤ Z.1.cells) (hsl : n + N ≤ Z.1.slots) (hZ : jZg Z g) (hsc : jSc g (ls ++ st)) (hcl : jCl G μ) (K : J l M Z (G ++ [(ci + 5, N)]) (k + 1) (n + N) q ls (.ref g :: st) (z0 μ g)) : J l M Z G k n pc ls st μ := by
  subst hg
  exact j_new hd hq hc hw hin hini hce hsl hZ hsc hcl K
theorem law_J (hL : L ≤ 3072) : J l mL (jZL L xs sX) [] 0 0 0 [.float 0, .null, .null, .null] [] m0 := by
  refine l_new (g := 0) (ci := 11) (N := 9) (C := RX11) (T := TX11) rfl dL_0 rfl rfl cl_L_7 it_X11 in_X11 (Nat.le_of_ble_eq_true rfl) (Nat.le_of_ble_eq_true rfl) jZg_L (jSc_f (jSc_n (jSc_n (jSc_n jSc_0)))) (fun _ _ _ ha _ => absurd ha (Nat.not_lt_zero _)) ?_
  refine j_dup dL_3 rfl (fun _ _ => rfl) ?_
  refine j_cIA (as := []) (rest := [.ref 0]) (mc := 111) (ms := 10720) dL_4 rfl vw_L_9 rfl ⟨Nat.le_of_ble_eq_true rfl, Nat.le_of_ble_eq_true rfl⟩ rfl rfl (fun _ _ => Nat.le_of_ble_eq_true rfl) sX_ok (fun _ _ _ _ h => h.2) ⟨Nat.le_of_ble_eq_true rfl, Nat.le_of_ble_eq_true rfl⟩ jZg_L (jSc_f (jSc_n (jSc_n (jSc_n (jSc_r (by decide) jSc_0))))) (c_X11_init sX_ok c_X7_init) ?_
  rintro _ μ1 _ ⟨rfl, rfl, P1, c1, kc, vk, cl1⟩
  refine j_astore_n (i := 1) (ls' := [.float 0, .ref 0, .null, .null]) dL_7 rfl rfl (Nat.le_of_ble_eq_true rfl) rfl ?_
  refine l_new (g := 112) (ci := 12) (N := 80) (C := RX12) (T := TX12) gCl dL_8 rfl rfl cl_L_10 it_X12 in_X12 (Nat.le_of_ble_eq_true rfl) (Nat.le_of_ble_eq_true rfl) jZg_L (jSc_f (jSc_r (by decide) (jSc_n (jSc_n jSc_0)))) cl1 ?_
  refine j_dup dL_11 rfl (fun _ _ => rfl) ?_
  refine j_cIA (as := []) (rest := [.ref 112]) (mc := 54) (ms := 12903) dL_12 rfl vw_L_12 rfl ⟨Nat.le_of_ble_eq_true rfl, Nat.le_of_ble_eq_true rfl⟩ rfl rfl (fun _ _ => Nat.le_of_ble_eq_true rfl) sX_ok (fun _ _ _ _ h => h.2) ⟨Nat.le_of_ble_eq_true rfl, Nat.le_of_ble_eq_true rfl⟩ jZg_L (jSc_f (jSc_r (by rw [List.length_append, gCl]; exact Nat.le_of_ble_eq_true rfl) (jSc_n (jSc_n (jSc_r (by rw [List.length_append, gCl]; exact Nat.le_of_ble_eq_true rfl) jSc_0))))) (c_X12_init sX_ok (cl_z gCl cl1)) ?_
  rintro _ μ2 _ ⟨rfl, rfl, N2, m2, km, low, cl2⟩
  refine j_astore_n (i := 2) (ls' := [.float 0, .ref 0, .ref 112, .null]) dL_15 rfl rfl (Nat.le_of_ble_eq_true rfl) rfl ?_
  refine j_iconst 0 dL_16 rfl (by decide) ?_
  refine j_istore_n (i := 3) (ls' := [.float 0, .ref 0, .ref 112, .int 0]) dL_17 rfl rfl (Nat.le_of_ble_eq_true rfl) rfl ?_
  exact lp_law hL 512 0 0 _ _ gM a0 μ2 rfl (lw0 low P1 c1 kc vk N2 m2 km cl2) (Nat.le_of_ble_eq_true rfl) (Nat.le_of_ble_eq_true rfl) (Nat.le_of_ble_eq_true rfl)
end LawJ
