/-! THE CLASS reads: names, PLACES, numbers -/
def nmC (N : nL) (d : Nat) (μ : jM) : Prop := ((plN N).length ≤ 8 ∧ (ghN N).length ≤ 7 ∧ okN N 0 ∧ ∀ x ∈ N, okW x.1) ∧ μ.1 d 0 = nI (plN N).length ∧ μ.1 d 2 = nI (ghN N).length ∧ (∀ (j : Nat) (n : List Nat), (plN N)[j]? = some n → μ.2.1 9 j = lN (en 32 n)) ∧ ∀ (j : Nat) (n : List Nat), (ghN N)[j]? = some n → μ.2.1 10 j = lN (en 32 n)
theorem plN_mem {N : nL} {n : List Nat} (h : n ∈ plN N) : ∃ x ∈ N, x.1 = n := by
  unfold plN at h
  obtain ⟨x, hx, rfl⟩ := List.mem_map.mp h
  exact ⟨x, (List.mem_filter.mp hx).1, rfl⟩
theorem ghN_mem {N : nL} {n : List Nat} (h : n ∈ ghN N) : ∃ x ∈ N, x.1 = n := by
  unfold ghN at h
  obtain ⟨x, hx, rfl⟩ := List.mem_map.mp h
  exact ⟨x, (List.mem_filter.mp hx).1, rfl⟩
theorem fid_no : ∀ (lst : List (List Nat)) (n : List Nat) (i : Nat), i + lst.length < NON → (fid lst n i = NON ↔ n ∉ lst) := by
  intro lst
  induction lst with
  | nil => intro n i _; exact ⟨fun _ h => (by cases h), fun _ => rfl⟩
  | cons w lst ih =>
    intro n i hi
    rw [List.length_cons] at hi
    unfold fid
    by_cases e : w = n
    · rw [if_pos e]
      exact ⟨fun z => by omega, fun z => absurd (by rw [e]; exact List.mem_cons_self) z⟩
    · rw [if_neg e, ih n (i + 1) (by omega)]
      exact ⟨fun z q => by rcases List.mem_cons.mp q with r | r; exact e r.symm; exact z r, fun z q => z (List.mem_cons_of_mem _ q)⟩
theorem dpl_iff {N : nL} {n : List Nat} (h1 : (plN N).length ≤ 8) (h2 : (ghN N).length ≤ 7) : dpl N n = true ↔ ¬ fid (plN N) n 0 = NON ∨ ¬ fid (ghN N) n 0 = NON := by
  rw [fid_no _ _ _ (by unfold NON; omega), fid_no _ _ _ (by unfold NON; omega), Classical.not_not, Classical.not_not]
  unfold dpl
  rw [List.any_eq_true]
  refine ⟨fun ⟨x, hx, e⟩ => ?_, fun h => ?_⟩
  · have e : x.1 = n := by simpa using e
    by_cases hn : x.2 = NON
    · exact Or.inr (by rw [← e]; unfold ghN; exact List.mem_map.mpr ⟨x, List.mem_filter.mpr ⟨hx, by simp [hn]⟩, rfl⟩)
    · exact Or.inl (by rw [← e]; unfold plN; exact List.mem_map.mpr ⟨x, List.mem_filter.mpr ⟨hx, by simp [hn]⟩, rfl⟩)
  · rcases h with h | h
    · obtain ⟨x, hx, e⟩ := plN_mem h; exact ⟨x, hx, by simp [e]⟩
    · obtain ⟨x, hx, e⟩ := ghN_mem h; exact ⟨x, hx, by simp [e]⟩
theorem fidI {lst : List (List Nat)} {n : List Nat} (h : lst.length ≤ 8) : nI (fid lst n 0) = -1 ↔ fid lst n 0 = NON := by
  refine ⟨fun e => ?_, fun e => by rw [e]; exact nI_NON⟩
  rcases fid_in lst n 0 with z | z
  · exact z
  · exact absurd e (nI_no1 (by omega))
theorem okC_w {Y : List Int32} {t : Nat} {w w' : Nat × Nat} {μ μ' : jM} (h : okC Y t w μ) (ho : cO3 [] [11, 12] [] μ μ') (hw : wOK Y t w') (hs : sC w' μ') : okC Y t w' μ' := by
  obtain ⟨h1, h2, h3, h4, h5, h6⟩ := h
  exact ⟨lexC_off h1 ho, h2, hw, by rw [ho.f 8]; exact h4, by rw [ho.f 9]; exact h5, hs⟩
theorem nmC_3 {N : nL} {d : Nat} {F : List Nat} {μ μ' : jM} (h : nmC N d μ) (ho : cO3 [] F [] μ μ') (hd : d ≠ 3) : nmC N d μ' := by
  unfold nmC at h ⊢
  rw [ho.2.1 d hd (by simp), ho.g 9, ho.g 10]; exact h
theorem gW_F {μ μ' : jM} (h : cO3 [] gF [] μ μ') : cO3 [] gW [] μ μ' := h.mono (by decide) (by decide) (by decide)
theorem gW_W {μ μ' : jM} (h : cO3 [] [11, 12] [] μ μ') : cO3 [] gW [] μ μ' := h.mono (by decide) (by decide) (by decide)
section ClN
variable {l : Launch} {G : jG} {Y : List Int32} {d : Nat} {N : nL}
/-- where a NAME's letters stand, whether or not there was a FAULT -/
theorem u_8 {α : Type} {x : Except pF α} {tk : α → Nat} {ww : α → Nat × Nat} {μ : jM} (h : uC Y x tk ww μ) : vp_in (μ.1 3 8) 401 := by
  cases x with
  | ok a => rw [(u_atC (show okC Y (tk a) (ww a) μ from h)).1]; exact vp_in_nI (by have := (u_atC (show okC Y (tk a) (ww a) μ from h)).2.1; omega) (by decide)
  | error e => obtain ⟨-, -, -, t, ht, e8⟩ := (show cB e μ from h); rw [e8]; exact vp_in_nI (by omega) (by decide)
theorem nn_bad {φ : jM → Prop} (hG : gGG G) {μ : jM} (hP : gPP μ) {nm nN k : Nat} (hn : G[nm]? = some (3, nN)) (hN : nN < 2 ^ 30) (hk : k < nN) (hd : tO gTold pTold G μ d) (q37 : μ.2.2 3 7 = some d) {e : pF} (h : cB e μ) (x3 : Int64) (x5 z0 : Int32) (K : ∀ μ', cB e μ' → cO3 [] [11, 12] [nm] μ μ' → (∀ i, i ≠ k → μ'.2.1 nm i = μ.2.1 nm i) → φ μ') : J l mX4_readNewName (jZ0 3 G (pV φ)) G 0 0 32 [.ref 3, .ref nm, .int (nI k), .long x3, .null, .int x5, .null] [.int z0] μ := by
  have ck : (nI k).toNatClampNeg = k := nI_clamp (by omega)
  have ik : vp_in (nI k) nN := vp_in_nI hk (by omega)
  have put : ∀ μ1 : jM, cO3 [] [11, 12] [] μ μ1 → φ (wL μ1 nm (nI k).toNatClampNeg x3) := fun μ1 o1 => by
    rw [ck]
    have oo : cO3 [] [11, 12] [nm] μ (wL μ1 nm k x3) := (o1.mono (C' := []) (F' := [11, 12]) (L' := [nm]) (fun _ z => z) (fun _ z => z) (fun _ z => by cases z)).trans (cO3_wL (by simp))
    refine K _ (cB_off h oo) oo (fun i hi => ?_)
    rw [wL_eq, updL_ne hi, o1.2.2.2 nm (by simp)]
  have fail : ∀ μ1 : jM, cO3 [] [11, 12] [] μ μ1 → J l mX4_readNewName (jZ0 3 G (pV φ)) G 0 0 93 [.null, .ref nm, .int (nI k), .long x3, .null, .null, .null] [] μ1 := fun μ1 o1 => b_X4_readNewName_93 hG (o1.gPP hP) hn ik (put μ1 o1)
  have t0 : ¬ ((1 : Int32) = 0) := by decide
  refine b_X4_readNewName_32 hG hP hn hd q37 (fun _ => d_X4_numberOf hG hP (hG 9 (3, 8) rfl) (by decide) _ _) (fun _ v μ1 hv => ?_) (fun _ => K μ h cO3.refl (fun _ _ => rfl))
  subst hv
  refine b_X4_readNewName_51 hG hP hn hd q37 (fun _ z => absurd z t0) (fun _ z => absurd z t0) (fun _ _ => d_X4_failSense hG hP _ _) (fun _ _ μ2 h2 => fail μ2 h2) (fun _ => d_X4_numberOf hG hP (hG 10 (3, 7) rfl) (by decide) _ _) (fun _ v μ2 hv => ?_)
  subst hv
  exact b_X4_readNewName_70 (ψ1 := fun _ => True) hG hP hn (fun _ _ => ik) (fun _ _ => put _ cO3.refl) (fun _ z => absurd rfl z) (fun _ z => absurd rfl z) (fun _ z => absurd z t0) (fun _ z => absurd z t0) (fun _ _ => d_X4_failSense hG hP _ _) (fun _ _ μ3 h3 => fail μ3 h3)
theorem v_readNewName {α : Type} (hG : gGG G) {μ : jM} (hP : gPP μ) {nm' nN k : Nat} (hn : G[nm']? = some (3, nN)) (hN : nN < 2 ^ 30) (hk : k < nN) (h70 : 70 ≤ d) (hd : tO gTold pTold G μ d) (q37 : μ.2.2 3 7 = some d) {x : Except pF α} {tk : α → Nat} {ww : α → Nat × Nat} (h : uC Y x tk ww μ) (hm : nmC N d μ) (h7 : nm' ≠ 7) {z : Int32} (hz : z = nI k) : jC0 l mX4_readNewName 3 G [.ref 3, .ref nm', .int z] μ (pV fun μ' => uC Y (px x fun a => nwN Y (tk a) (ww a) N) (fun p => p.2.1) (fun p => p.2.2) μ' ∧ (∀ p, (px x fun a => nwN Y (tk a) (ww a) N) = .ok p → μ'.2.1 nm' k = lN (en 32 (nm Y (tk p.1)))) ∧ cO3 [] gW [nm'] μ μ' ∧ ∀ i, i ≠ k → μ'.2.1 nm' i = μ.2.1 nm' i) := by
  subst hz
  refine jC0.of' (ls := [.ref 3, .ref nm', .int (nI k), .null, .null, .null, .null]) rfl rfl rfl (fun _ _ => Nat.le_of_ble_eq_true rfl) ?_
  refine b_X4_readNewName_0 hG hP hn (u_8 h) (v_expect (k := 1) hG hP h rfl (by decide)) (fun v μ1 h1 => ?_)
  obtain ⟨h1, o1, g1⟩ := h1
  have P1 := o1.gPP hP
  have d1 := o1.tO hd
  have q1 : μ1.2.2 3 7 = some d := by rw [o1.1]; exact q37
  have o1L : cO3 [] gW [nm'] μ μ1 := o1.mono (by decide) (by decide) (fun _ z => by cases z)
  have hspec : (px x fun a => nwN Y (tk a) (ww a) N) = bd (px x fun a => xpc Y 1 (tk a)) fun p => .ok (p.1, (p.2, if dpl N (nm Y (tk p.1)) = true then sns (ww p.1) 3 (pl Y (tk p.1)) else ww p.1)) := by
    rw [px_bd]; unfold px nwN; congr 1; funext a; rw [bd_bd]; rfl
  rw [hspec]
  cases ex : (px x fun a => xpc Y 1 (tk a)) with
  | error f =>
    have m1 : cB f μ1 := pR_er h1 ex
    refine nn_bad hG P1 hn hN hk d1 q1 m1 _ _ _ (fun μ2 m2 o2 e2 => ⟨m2, fun p hp => (by cases hp), o1L.trans (o2.mono (by decide) (by decide) (fun _ z => z)), fun i hi => ?_⟩)
    rw [e2 i hi, o1.2.2.2 nm' (by simp)]
  | ok p =>
    have k1 := pR_ok h1 ex
    have ev := g1 p ex
    subst ev
    obtain ⟨x0, y1⟩ := px_inv ex
    have k0 : okC Y (tk p.1) (ww p.1) μ := pR_ok h x0
    obtain ⟨a1, a2, -, a4, a5, -⟩ := u_atC k0
    obtain ⟨hkd, e2, -⟩ := xpc_ok y1
    have en1 : μ.2.1 7 (μ.1 3 8).toNatClampNeg = lN (en 32 (nm Y (tk p.1))) := by rw [a1, nI_clamp (by omega)]; exact a5 hkd
    have pl1 : μ.1 6 (μ.1 3 8).toNatClampNeg = nI (pl Y (tk p.1)) := by rw [a1, nI_clamp (by omega)]; exact a4
    rw [en1, pl1]
    have ok1 := nm_ok hkd
    have m1 := nmC_3 hm o1 (by omega)
    obtain ⟨⟨n8, n7, nk, nw⟩, c0, c2, cp, cg⟩ := id m1
    have ck : (nI k).toNatClampNeg = k := nI_clamp (by omega)
    have ik : vp_in (nI k) nN := vp_in_nI hk (by omega)
    have t0 : ¬ ((1 : Int32) = 0) := by decide
    have hw0 := k0.2.2.1
    have wS := wOK_s (k := 3) hw0 (by omega) (by decide)
    have put : ∀ μ2 : jM, cO3 [] [11, 12] [] μ1 μ2 → okC Y p.2 (if dpl N (nm Y (tk p.1)) = true then sns (ww p.1) 3 (pl Y (tk p.1)) else ww p.1) μ2 → (fun μ' => uC Y (bd (.ok p) fun p => (.ok (p.1, (p.2, if dpl N (nm Y (tk p.1)) = true then sns (ww p.1) 3 (pl Y (tk p.1)) else ww p.1)) : Except pF (α × (Nat × (Nat × Nat))))) (fun p => p.2.1) (fun p => p.2.2) μ' ∧ (∀ q, (bd (.ok p) fun p => (.ok (p.1, (p.2, if dpl N (nm Y (tk p.1)) = true then sns (ww p.1) 3 (pl Y (tk p.1)) else ww p.1)) : Except pF (α × (Nat × (Nat × Nat))))) = .ok q → μ'.2.1 nm' k = lN (en 32 (nm Y (tk q.1)))) ∧ cO3 [] gW [nm'] μ μ' ∧ ∀ i, i ≠ k → μ'.2.1 nm' i = μ.2.1 nm' i) (wL μ2 nm' (nI k).toNatClampNeg (lN (en 32 (nm Y (tk p.1))))) := by
      intro μ2 o2 hk2
      rw [ck]
      have oL : cO3 [] [] [nm'] μ2 (wL μ2 nm' k (lN (en 32 (nm Y (tk p.1))))) := cO3_wL (by simp)
      refine ⟨okC_off hk2 oL (c3 := by simp; exact fun z => h7 z.symm), fun q hq => ?_, (o1L.trans (o2.mono (by decide) (by decide) (fun _ z => by cases z))).trans (oL.mono (by decide) (by decide) (fun _ z => z)), fun i hi => ?_⟩
      · cases hq; rw [wL_eq, updL_at]
      · rw [wL_eq, updL_ne hi, o2.2.2.2 nm' (by simp), o1.2.2.2 nm' (by simp)]
    have fail : dpl N (nm Y (tk p.1)) = true → ∀ μ2, (sC (sns (ww p.1) 3 (pl Y (tk p.1))) μ2 ∧ cO3 [] [11, 12] [] μ1 μ2) → J l mX4_readNewName (jZ0 3 G (pV (fun μ' => uC Y (bd (.ok p) fun p => (.ok (p.1, (p.2, if dpl N (nm Y (tk p.1)) = true then sns (ww p.1) 3 (pl Y (tk p.1)) else ww p.1)) : Except pF (α × (Nat × (Nat × Nat))))) (fun p => p.2.1) (fun p => p.2.2) μ' ∧ (∀ q, (bd (.ok p) fun p => (.ok (p.1, (p.2, if dpl N (nm Y (tk p.1)) = true then sns (ww p.1) 3 (pl Y (tk p.1)) else ww p.1)) : Except pF (α × (Nat × (Nat × Nat))))) = .ok q → μ'.2.1 nm' k = lN (en 32 (nm Y (tk q.1)))) ∧ cO3 [] gW [nm'] μ μ' ∧ ∀ i, i ≠ k → μ'.2.1 nm' i = μ.2.1 nm' i))) G 0 0 93 [.null, .ref nm', .int (nI k), .long (lN (en 32 (nm Y (tk p.1)))), .null, .null, .null] [] μ2 := by
      rintro hd2 μ2 ⟨s2, o2⟩
      refine b_X4_readNewName_93 hG (o2.gPP P1) hn ik (put μ2 o2 ?_)
      rw [if_pos hd2]
      refine okC_w k1 o2 ?_ s2
      have := wS.1
      rw [e2]; exact this
    have cf : jC0 l mX4_failSense 0 G [.ref 3, .int 3, .int (nI (pl Y (tk p.1)))] μ1 (pV fun μ' => sC (sns (ww p.1) 3 (pl Y (tk p.1))) μ' ∧ cO3 [] [11, 12] [] μ1 μ') := c_X4_failSense hG P1 k1.2.2.2.2.2 k1.2.2.1.1 rfl rfl
    refine b_X4_readNewName_32 hG P1 hn d1 q1 (fun _ => c_X4_numberOf hG P1 (hG 9 (3, 8) rfl) (by decide) n8 ok1 (fun n hn' => by obtain ⟨y, hy, e⟩ := plN_mem hn'; rw [← e]; exact nw y hy) cp c0) (fun _ v μ2 hv => ?_) (fun z => absurd z t0)
    obtain ⟨rfl, rfl⟩ := hv
    have dI := dpl_iff (N := N) (n := nm Y (tk p.1)) n8 n7
    refine b_X4_readNewName_51 hG P1 hn d1 q1 (fun _ z => absurd z t0) (fun _ z => absurd z t0) (fun _ _ => cf) (fun hne _ => fail (dI.mpr (Or.inl (fun z => hne ((fidI n8).mpr z))))) (fun _ => c_X4_numberOf hG P1 (hG 10 (3, 7) rfl) (by decide) n7 ok1 (fun n hn' => by obtain ⟨y, hy, e⟩ := ghN_mem hn'; rw [← e]; exact nw y hy) cg c2) (fun he v μ3 hv => ?_)
    obtain ⟨rfl, rfl⟩ := hv
    refine b_X4_readNewName_70 (ψ1 := fun _ => True) hG P1 hn (fun _ _ => ik) (fun he2 _ => put _ cO3.refl ?_) (fun _ z => absurd rfl z) (fun _ z => absurd rfl z) (fun _ z => absurd z t0) (fun _ z => absurd z t0) (fun _ _ => cf) (fun hne _ => fail (dI.mpr (Or.inr (fun z => hne ((fidI (by omega)).mpr z)))))
    have hnd : ¬ dpl N (nm Y (tk p.1)) = true := fun z => by
      rcases dI.mp z with q | q
      · exact q ((fidI n8).mp he)
      · exact q ((fidI (by omega)).mp he2)
    rw [if_neg hnd]; exact k1
theorem v_readOldPlace {α : Type} (hG : gGG G) {μ : jM} (hP : gPP μ) (h70 : 70 ≤ d) (hd : tO gTold pTold G μ d) (q37 : μ.2.2 3 7 = some d) {x : Except pF α} {tk bb : α → Nat} {ww : α → Nat × Nat} (h : uC Y x tk ww μ) (hm : nmC N d μ) {z : Int32} (hz : ∀ a, x = .ok a → z = nI (bb a) ∧ (bb a = NON ∨ bb a < 8)) : jC0 l mX4_readOldPlace 3 G [.ref 3, .int z] μ (pI fun v μ' => (∀ p, (px x fun a => olP Y (bb a) (tk a) (ww a) N) = .ok p → v = nI p.2.2.2) ∧ uC Y (px x fun a => olP Y (bb a) (tk a) (ww a) N) (fun p => p.2.1) (fun p => p.2.2.1) μ' ∧ cO3 [] gW [] μ μ') := by
  refine jC0.of' (ls := [.ref 3, .int z, .null, .null, .null, .null]) rfl rfl rfl (fun _ _ => Nat.le_of_ble_eq_true rfl) ?_
  refine b_X4_readOldPlace_0 hG hP (u_8 h) (v_expect (k := 1) hG hP h rfl (by decide)) (fun v μ1 h1 => ?_)
  obtain ⟨h1, o1, g1⟩ := h1
  have P1 := o1.gPP hP
  have d1 := o1.tO hd
  have q1 : μ1.2.2 3 7 = some d := by rw [o1.1]; exact q37
  have hspec : (px x fun a => olP Y (bb a) (tk a) (ww a) N) = bd (px x fun a => xpc Y 1 (tk a)) fun p => .ok (p.1, (p.2, olW Y (bb p.1) (tk p.1) (ww p.1) N, fid (plN N) (nm Y (tk p.1)) 0)) := by
    rw [px_bd]; unfold px olP; congr 1; funext a; rw [bd_bd]; rfl
  rw [hspec]
  cases ex : (px x fun a => xpc Y 1 (tk a)) with
  | error f =>
    have m1 : cB f μ1 := pR_er h1 ex
    have fin : ∀ μ2 : jM, cO3 [] [11, 12] [] μ1 μ2 → ∀ v : Int32, (∀ p : α × (Nat × (Nat × Nat) × Nat), (.error f : Except pF (α × (Nat × (Nat × Nat) × Nat))) = .ok p → v = nI p.2.2.2) ∧ uC Y (.error f : Except pF (α × (Nat × (Nat × Nat) × Nat))) (fun p => p.2.1) (fun p => p.2.2.1) μ2 ∧ cO3 [] gW [] μ μ2 := fun μ2 o2 v => ⟨fun p hp => (by cases hp), cB_off m1 o2, (gW_F o1).trans (gW_W o2)⟩
    refine b_X4_readOldPlace_32 hG P1 d1 q1 (fun _ => d_X4_numberOf hG P1 (hG 9 (3, 8) rfl) (by decide) _ _) (fun _ v2 μ2 hv => ?_) (fun _ => fin μ1 cO3.refl _)
    subst hv
    exact b_X4_readOldPlace_52 hG P1 (fun _ _ => fin _ cO3.refl _) (fun _ _ => d_X4_failSense hG P1 _ _) (fun _ _ μ3 h3 => b_X4_readOldPlace_83 hG (h3.gPP P1) (fin _ h3 _)) (fun _ => d_X4_failSense hG P1 _ _) (fun _ μ3 h3 => b_X4_readOldPlace_67 hG (h3.gPP P1) (fin _ h3 _))
  | ok p =>
    have k1 := pR_ok h1 ex
    have ev := g1 p ex
    subst ev
    obtain ⟨x0, y1⟩ := px_inv ex
    have k0 : okC Y (tk p.1) (ww p.1) μ := pR_ok h x0
    obtain ⟨a1, a2, -, a4, a5, -⟩ := u_atC k0
    obtain ⟨hkd, e2, -⟩ := xpc_ok y1
    have en1 : μ.2.1 7 (μ.1 3 8).toNatClampNeg = lN (en 32 (nm Y (tk p.1))) := by rw [a1, nI_clamp (by omega)]; exact a5 hkd
    have pl1 : μ.1 6 (μ.1 3 8).toNatClampNeg = nI (pl Y (tk p.1)) := by rw [a1, nI_clamp (by omega)]; exact a4
    rw [en1, pl1]
    have ok1 := nm_ok hkd
    have m1 := nmC_3 hm o1 (by omega)
    obtain ⟨⟨n8, n7, nk, nw⟩, c0, c2, cp, cg⟩ := id m1
    obtain ⟨rfl, hbb⟩ := hz p.1 x0
    have t0 : ¬ ((1 : Int32) = 0) := by decide
    have hw0 := k0.2.2.1
    have w3 := wOK_s (k := 3) hw0 (by omega) (by decide)
    have w4 := wOK_s (k := 4) hw0 (by omega) (by decide)
    have fid8 : fid (plN N) (nm Y (tk p.1)) 0 = NON ∨ fid (plN N) (nm Y (tk p.1)) 0 < 8 := by
      rcases fid_in (plN N) (nm Y (tk p.1)) 0 with q | q
      · exact Or.inl q
      · exact Or.inr (by omega)
    have same : nI (fid (plN N) (nm Y (tk p.1)) 0) = nI (bb p.1) ↔ fid (plN N) (nm Y (tk p.1)) 0 = bb p.1 := by
      refine ⟨fun q => ?_, fun q => by rw [q]⟩
      rcases fid8 with r | r
      · rw [r, nI_NON] at q
        rcases hbb with r' | r'
        · rw [r, r']
        · exact absurd q.symm (nI_no1 (by omega))
      · rcases hbb with r' | r'
        · rw [r', nI_NON] at q; exact absurd q (nI_no1 (by omega))
        · exact (nI_eq (by omega) (by omega)).mp q
    have fin : ∀ (μ2 : jM) (w' : Nat × Nat), cO3 [] [11, 12] [] μ1 μ2 → okC Y p.2 w' μ2 → olW Y (bb p.1) (tk p.1) (ww p.1) N = w' → (∀ q, (bd (.ok p) fun p => (.ok (p.1, (p.2, olW Y (bb p.1) (tk p.1) (ww p.1) N, fid (plN N) (nm Y (tk p.1)) 0)) : Except pF (α × (Nat × (Nat × Nat) × Nat)))) = .ok q → nI (fid (plN N) (nm Y (tk p.1)) 0) = nI q.2.2.2) ∧ uC Y (bd (.ok p) fun p => (.ok (p.1, (p.2, olW Y (bb p.1) (tk p.1) (ww p.1) N, fid (plN N) (nm Y (tk p.1)) 0)) : Except pF (α × (Nat × (Nat × Nat) × Nat)))) (fun p => p.2.1) (fun p => p.2.2.1) μ2 ∧ cO3 [] gW [] μ μ2 := by
      intro μ2 w' o2 hk2 hw'
      refine ⟨fun q hq => (by cases hq; rfl), ?_, (gW_F o1).trans (gW_W o2)⟩
      show okC Y p.2 (olW Y (bb p.1) (tk p.1) (ww p.1) N) μ2
      rw [hw']; exact hk2
    refine b_X4_readOldPlace_32 hG P1 d1 q1 (fun _ => c_X4_numberOf hG P1 (hG 9 (3, 8) rfl) (by decide) n8 ok1 (fun n hn' => by obtain ⟨y, hy, e⟩ := plN_mem hn'; rw [← e]; exact nw y hy) cp c0) (fun _ v μ2 hv => ?_) (fun z => absurd z t0)
    obtain ⟨rfl, rfl⟩ := hv
    refine b_X4_readOldPlace_52 hG P1 (fun h1' h2' => fin μ2 (ww p.1) cO3.refl k1 ?_) (fun _ _ => c_X4_failSense hG P1 k1.2.2.2.2.2 k1.2.2.1.1 rfl rfl) (fun h1' h2' μ3 h3 => ?_) (fun _ => c_X4_failSense hG P1 k1.2.2.2.2.2 k1.2.2.1.1 rfl rfl) (fun h1' μ3 h3 => ?_)
    · unfold olW
      rw [if_neg (fun q => h1' ((fidI n8).mpr q)), if_neg (fun q => h2' (same.mpr q))]
    · refine b_X4_readOldPlace_83 hG (h3.2.gPP P1) (fin μ3 (sns (ww p.1) 3 (pl Y (tk p.1))) h3.2 (okC_w k1 h3.2 (by rw [e2]; exact w3.1) h3.1) ?_)
      unfold olW
      rw [if_neg (fun q => h1' ((fidI n8).mpr q)), if_pos (same.mp h2')]
    · refine b_X4_readOldPlace_67 hG (h3.2.gPP P1) (fin μ3 (sns (ww p.1) 4 (pl Y (tk p.1))) h3.2 (okC_w k1 h3.2 (by rw [e2]; exact w4.1) h3.1) ?_)
      unfold olW
      rw [if_pos ((fidI n8).mp h1')]
theorem l32 {n : Nat} (h : n < 2 ^ 31) : Int64.toInt32 (lN n) = nI n := by
  apply Int32.toBitVec_inj.mp
  show (BitVec.ofNat 64 n).signExtend 32 = BitVec.ofNat 32 n
  rw [BitVec.signExtend_eq_setWidth_of_le _ (by decide)]
  apply BitVec.eq_of_toNat_eq
  simp
theorem v_readNumber {α : Type} (hG : gGG G) {μ : jM} (hP : gPP μ) {x : Except pF α} {tk : α → Nat} {ww : α → Nat × Nat} (h : uC Y x tk ww μ) {lo hi : Nat} {z1 z2 : Int32} (h1 : z1 = nI lo) (h2 : z2 = nI hi) (hlo : lo < 2 ^ 31) (hhi : hi < 2 ^ 31) : jC0 l mX4_readNumber 3 G [.ref 3, .int z1, .int z2] μ (pI fun v μ' => (∀ p, (px x fun a => nmb Y lo hi (tk a) (ww a)) = .ok p → v = nI p.2.2.2) ∧ uC Y (px x fun a => nmb Y lo hi (tk a) (ww a)) (fun p => p.2.1) (fun p => p.2.2.1) μ' ∧ cO3 [] gW [] μ μ') := by
  subst h1; subst h2
  refine jC0.of' (ls := [.ref 3, .int (nI lo), .int (nI hi), .null, .null]) rfl rfl rfl (fun _ _ => Nat.le_of_ble_eq_true rfl) ?_
  refine b_X4_readNumber_0 hG hP (u_8 h) (v_expect (k := 2) hG hP h rfl (by decide)) (fun v μ1 h1 => ?_)
  obtain ⟨h1, o1, g1⟩ := h1
  have P1 := o1.gPP hP
  have hspec : (px x fun a => nmb Y lo hi (tk a) (ww a)) = bd (px x fun a => xpc Y 2 (tk a)) fun p => .ok (p.1, (p.2, nbW Y lo hi (tk p.1) (ww p.1), vl Y (tk p.1))) := by
    rw [px_bd]; unfold px nmb; congr 1; funext a; rw [bd_bd]; rfl
  rw [hspec]
  cases ex : (px x fun a => xpc Y 2 (tk a)) with
  | error f =>
    have m1 : cB f μ1 := pR_er h1 ex
    have fin : ∀ μ2 : jM, cO3 [] [11, 12] [] μ1 μ2 → ∀ v : Int32, (∀ p : α × (Nat × (Nat × Nat) × Nat), (.error f : Except pF (α × (Nat × (Nat × Nat) × Nat))) = .ok p → v = nI p.2.2.2) ∧ uC Y (.error f : Except pF (α × (Nat × (Nat × Nat) × Nat))) (fun p => p.2.1) (fun p => p.2.2.1) μ2 ∧ cO3 [] gW [] μ μ2 := fun μ2 o2 v => ⟨fun p hp => (by cases hp), cB_off m1 o2, (gW_F o1).trans (gW_W o2)⟩
    exact b_X4_readNumber_33 hG P1 (fun _ => fin _ cO3.refl _) (fun _ _ => d_X4_failSense hG P1 _ _) (fun _ _ μ3 h3 => b_X4_readNumber_53 hG (h3.gPP P1) (fin _ h3 _)) (fun _ _ _ => fin _ cO3.refl _) (fun _ _ _ => d_X4_failSense hG P1 _ _) (fun _ _ _ μ3 h3 => b_X4_readNumber_53 hG (h3.gPP P1) (fin _ h3 _))
  | ok p =>
    have k1 := pR_ok h1 ex
    have ev := g1 p ex
    subst ev
    obtain ⟨x0, y1⟩ := px_inv ex
    have k0 : okC Y (tk p.1) (ww p.1) μ := pR_ok h x0
    obtain ⟨a1, a2, -, a4, -, a6⟩ := u_atC k0
    obtain ⟨hkd, e2, -⟩ := xpc_ok y1
    have hvl := vl_le hkd
    have en1 : Int64.toInt32 (μ.2.1 7 (μ.1 3 8).toNatClampNeg) = nI (vl Y (tk p.1)) := by rw [a1, nI_clamp (by omega), a6 hkd]; exact l32 (by omega)
    have pl1 : μ.1 6 (μ.1 3 8).toNatClampNeg = nI (pl Y (tk p.1)) := by rw [a1, nI_clamp (by omega)]; exact a4
    rw [en1, pl1]
    have t0 : ¬ ((1 : Int32) = 0) := by decide
    have hw0 := k0.2.2.1
    have w5 := wOK_s (k := 5) hw0 (by omega) (by decide)
    have fin : ∀ (μ2 : jM) (w' : Nat × Nat), cO3 [] [11, 12] [] μ1 μ2 → okC Y p.2 w' μ2 → nbW Y lo hi (tk p.1) (ww p.1) = w' → (∀ q, (bd (.ok p) fun p => (.ok (p.1, (p.2, nbW Y lo hi (tk p.1) (ww p.1), vl Y (tk p.1))) : Except pF (α × (Nat × (Nat × Nat) × Nat)))) = .ok q → nI (vl Y (tk p.1)) = nI q.2.2.2) ∧ uC Y (bd (.ok p) fun p => (.ok (p.1, (p.2, nbW Y lo hi (tk p.1) (ww p.1), vl Y (tk p.1))) : Except pF (α × (Nat × (Nat × Nat) × Nat)))) (fun p => p.2.1) (fun p => p.2.2.1) μ2 ∧ cO3 [] gW [] μ μ2 := by
      intro μ2 w' o2 hk2 hw'
      refine ⟨fun q hq => (by cases hq; rfl), ?_, (gW_F o1).trans (gW_W o2)⟩
      show okC Y p.2 (nbW Y lo hi (tk p.1) (ww p.1)) μ2
      rw [hw']; exact hk2
    have cf : jC0 l mX4_failSense 0 G [.ref 3, .int 5, .int (nI (pl Y (tk p.1)))] μ1 (pV fun μ' => sC (sns (ww p.1) 5 (pl Y (tk p.1))) μ' ∧ cO3 [] [11, 12] [] μ1 μ') := c_X4_failSense hG P1 k1.2.2.2.2.2 k1.2.2.1.1 rfl rfl
    have bad : ¬ (lo ≤ vl Y (tk p.1) ∧ vl Y (tk p.1) ≤ hi) → ∀ μ3, (sC (sns (ww p.1) 5 (pl Y (tk p.1))) μ3 ∧ cO3 [] [11, 12] [] μ1 μ3) → J l mX4_readNumber (jZ0 3 G (pI fun v μ' => (∀ q, (bd (.ok p) fun p => (.ok (p.1, (p.2, nbW Y lo hi (tk p.1) (ww p.1), vl Y (tk p.1))) : Except pF (α × (Nat × (Nat × Nat) × Nat)))) = .ok q → v = nI q.2.2.2) ∧ uC Y (bd (.ok p) fun p => (.ok (p.1, (p.2, nbW Y lo hi (tk p.1) (ww p.1), vl Y (tk p.1))) : Except pF (α × (Nat × (Nat × Nat) × Nat)))) (fun p => p.2.1) (fun p => p.2.2.1) μ' ∧ cO3 [] gW [] μ μ')) G 0 0 53 [.null, .null, .null, .int (nI (vl Y (tk p.1))), .null] [] μ3 := fun hb μ3 h3 => b_X4_readNumber_53 (l := l) hG (h3.2.gPP P1) (fin μ3 (sns (ww p.1) 5 (pl Y (tk p.1))) h3.2 (okC_w k1 h3.2 (by rw [e2]; exact w5.1) h3.1) (by unfold nbW; rw [if_neg hb]))
    refine b_X4_readNumber_33 hG P1 (fun z => absurd z t0) (fun _ _ => cf) (fun _ hlt => bad (fun q => by rw [nI_ltI (by omega) hlo] at hlt; omega)) (fun _ hlt hle => fin μ1 (ww p.1) cO3.refl k1 ?_) (fun _ _ _ => cf) (fun _ hlt hle => bad (fun q => by rw [nI_leI (by omega) hhi] at hle; omega))
    rw [nI_ltI (by omega) hlo] at hlt
    rw [nI_leI (by omega) hhi] at hle
    unfold nbW; rw [if_pos ⟨by omega, hle⟩]
end ClN
