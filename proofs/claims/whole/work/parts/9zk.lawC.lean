/-! THE LAW: the next state is sound -/
theorem okR_of {G : jG} {a : aS} {B t d : Nat} {μ μ' : jM} (hc : cJ G a B t d μ) (hm : mI a μ') : okR (gS a) B := by
  obtain ⟨⟨v, -, -, -, h4, -⟩, -⟩ := hm
  exact ⟨h4, hc.1.2.2.1.1, hc.1.2.2.1.2.2⟩
theorem aOK.mono {a : aS} {B B' : Nat} (h : aOK a B) (hb : B ≤ B') : aOK a B' := ⟨h.1.mono hb, fun R hR => (h.2.1 R hR).mono hb, fun s h1 h2 => (h.2.2.1 s h1 h2).mono hb, h.2.2.2⟩
theorem aOK_SH {a : aS} {B B' : Nat} {S' : sR} {H' : List sR} (h : aOK a B) (hb : B ≤ B') (hS : okR S' B') (hH : ∀ R ∈ H', R ∈ gH a ∨ R = gS a) : aOK (aSH a S' H') B' := ⟨hS, fun R hR => by
  rcases hH R hR with q | q
  · exact (h.2.1 R q).mono hb
  · rw [q]; exact h.1.mono hb, fun s h1 h2 => (h.2.2.1 s h1 h2).mono hb, h.2.2.2⟩
theorem push_in {H : List sR} {S R : sR} (h : R ∈ push H S) : R ∈ H ∨ R = S := by
  unfold push at h
  split at h
  · rcases List.mem_append.mp h with q | q
    · exact Or.inl (List.mem_of_mem_tail q)
    · exact Or.inr (List.mem_singleton.mp q)
  · rcases List.mem_append.mp h with q | q
    · exact Or.inl q
    · exact Or.inr (List.mem_singleton.mp q)
theorem dGate_in {T : sT} {S R : sR} {H : List sR} {x y : Int32} (h : R ∈ (dGate T S H x y).2.2) : R ∈ H ∨ R = S := by
  unfold dGate at h
  split at h
  · exact push_in h
  · exact Or.inl h
theorem dRate_in {S R : sR} {H : List sR} {x : Int32} (h : R ∈ (dRate S H x).2.2) : R ∈ H ∨ R = S := by
  unfold dRate at h
  split at h
  · exact push_in h
  · exact Or.inl h
theorem dMend_in {T : sT} {S R : sR} {H : List sR} {x : Int32} (h : R ∈ (dMend T S H x).2.2) : R ∈ H ∨ R = S := by
  unfold dMend at h
  split at h
  · split at h
    · exact push_in h
    · exact Or.inl h
  · exact Or.inl h
theorem dNights_in {T : sT} {Lw : Nat → sLaw} {S R : sR} {H : List sR} {x : Int32} (h : R ∈ (dNights T Lw S H x).2.2) : R ∈ H ∨ R = S := by
  unfold dNights at h
  split at h
  · split at h
    · exact Or.inl h
    · exact push_in h
  · exact Or.inl h
theorem dUndo_in {S R : sR} {H : List sR} (h : R ∈ (dUndo S H).2.2) : R ∈ H ∨ R = S := by
  unfold dUndo at h
  split at h
  · first | exact Or.inl ((List.dropLast_sublist _).subset h) | exact Or.inl h
  · first | exact Or.inl h | exact Or.inl ((List.dropLast_sublist _).subset h)
theorem isN_clt {x : Int32} {n : Nat} (hn : n ≤ 2 ^ 31) (h : isN x n) : x.toNatClampNeg < n := by
  obtain ⟨k, h1, rfl⟩ := h
  rw [nI_clamp (by omega)]; exact h1
theorem aOK_hold {a : aS} {B : Nat} {x : Int32} (h : aOK a B) : aOK (dHold a x).2 B := by
  unfold dHold
  split
  · refine ⟨h.1, h.2.1, fun s h1 h2 => ?_, h.2.2.2⟩
    show okR (upR (gSl a) x.toNatClampNeg (gS a) s) B
    have h2 : upB (gHs a) x.toNatClampNeg s = true := h2
    unfold upB at h2
    unfold upR
    split
    · exact h.1
    · rename_i e
      rw [if_neg e] at h2
      exact h.2.2.1 s h1 h2
  · exact h
theorem aOK_rest {a : aS} {B : Nat} {x : Int32} (h : aOK a B) : aOK (dRest a x).2 B := by
  unfold dRest
  split
  · rename_i e
    obtain ⟨e1, e2⟩ := e
    have h3 : x.toNatClampNeg < 3 := isN_clt (by decide) e1
    exact ⟨h.2.2.1 _ h3 e2, fun R hR => (List.not_mem_nil hR).elim, h.2.2.1, h.2.2.2⟩
  · exact h
theorem aOK_tell {a : aS} {B b : Nat} {x y : Int32} (h : aOK a B) (h12 : gT a 0 1 ≤ 12) (hb : b ≤ 1) : aOK (dTell a x y b).2 B := by
  unfold dTell
  split
  · rename_i e
    obtain ⟨-, e1, -, e2⟩ := e
    refine ⟨h.1, h.2.1, h.2.2.1, fun d hd => ?_⟩
    rcases List.mem_append.mp hd with q | q
    · exact h.2.2.2 d q
    · cases List.mem_singleton.mp q
      exact ⟨isN_clt (n := gT a 0 1) (by omega) e1, by have := isN_clt (by decide) e2; show y.toNatClampNeg ≤ 30; omega, hb⟩
  · exact h
theorem aOK_forget {a : aS} {B : Nat} (h : aOK a B) : aOK (aDr a []) B := ⟨h.1, h.2.1, h.2.2.1, fun d hd => (List.not_mem_nil hd).elim⟩
theorem okR_bg {T : sT} {B : Nat} : okR (sBg T) B := ⟨bg_hi, rg_bg.mono (Nat.zero_le _), bg_rt (T := T)⟩
theorem aOK_read {a : aS} {B : Nat} (h : aOK a B) : aOK (dRead a).2 B := by
  unfold dRead
  split
  · exact h
  · split
    · exact ⟨okR_bg, fun R hR => (List.not_mem_nil hR).elim, fun s _ h2 => (by cases h2), fun d hd => (List.not_mem_nil hd).elim⟩
    · exact h
theorem by_all : ∀ k, k < 256 → (Int8.ofNat k).toInt32 = nI (4294967168 + (k + 128) % 256) ∧ vp_nar .byte ((Int8.ofNat k).toInt32) = (Int8.ofNat k).toInt32 := by decide +kernel
theorem by_nat (y : Int8) : ∃ k, k < 256 ∧ y = Int8.ofNat k := ⟨y.toBitVec.toNat, y.toBitVec.isLt, Int8.toBitVec_inj.mp (by simp)⟩
theorem by_in (x s : Int32) : ∃ m, m < 256 ∧ byt x s = nI (4294967168 + m) := by
  obtain ⟨k, hk, e⟩ := by_nat (Int32.toInt8 (x >>> (s &&& 31)))
  refine ⟨(k + 128) % 256, Nat.mod_lt _ (by decide), ?_⟩
  unfold byt
  rw [e, (by_all k hk).2, (by_all k hk).1]
theorem by4_in {x b : Int32} (h : b ∈ by4 x) : ∃ m, m < 256 ∧ b = nI (4294967168 + m) := by
  unfold by4 at h
  simp only [List.mem_cons, List.not_mem_nil, or_false] at h
  rcases h with rfl | rfl | rfl | rfl <;> exact by_in _ _
theorem byO_feed {Y : List Int32} {x1 x2 x3 x4 x5 : Int32} (h : byO Y) : byO (dFeed Y x1 x2 x3 x4 x5).2 := by
  unfold dFeed
  split
  · intro b hb
    unfold by20 at hb
    simp only [List.mem_append] at hb
    rcases hb with q | q | q | q | q | q
    · exact h b q
    all_goals exact by4_in q
  · exact h
theorem byO_back {Y : List Int32} {x : Int32} (h : byO Y) : byO (dBack Y x).2 := by
  unfold dBack
  split
  · exact fun b hb => h b (List.mem_of_mem_take hb)
  · exact h
theorem byO_read {a : aS} : byO (gY (dRead a).2) := by
  unfold dRead
  split
  · exact fun b hb => (List.not_mem_nil hb).elim
  · split <;> exact fun b hb => (List.not_mem_nil hb).elim
