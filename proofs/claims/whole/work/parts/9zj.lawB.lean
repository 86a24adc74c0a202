/-! THE LAW: what stands between its calls -/
theorem txM_row {v : Nat} {T : sT} {Lw : Nat → sLaw} {μ μ' : jM} (e : ∀ c, 112 ≤ c → c < 167 → μ'.1 c = μ.1 c) (h : txM μ v T Lw) : txM μ' v T Lw := by
  obtain ⟨⟨hv, h18⟩, h2, h3, h4, h5, h6⟩ := h
  refine ⟨⟨hv, by rw [e 112 (by decide) (by decide)]; exact h18⟩, ?_, fun k hk => ?_, fun a ha => ?_, fun q hq => ?_, h6⟩
  · rw [e 122 (by decide) (by decide), e 123 (by decide) (by decide), e 129 (by decide) (by decide), e 128 (by decide) (by decide), e 135 (by decide) (by decide), e 136 (by decide) (by decide), e 137 (by decide) (by decide), e 138 (by decide) (by decide)]; exact h2
  · rw [e 124 (by decide) (by decide), e 125 (by decide) (by decide), e 126 (by decide) (by decide), e 127 (by decide) (by decide)]; exact h3 k hk
  · rw [e 130 (by decide) (by decide), e 131 (by decide) (by decide), e 132 (by decide) (by decide), e 133 (by decide) (by decide), e 134 (by decide) (by decide)]; exact h4 a ha
  · have hqv : (3 * v + q) / 3 = v := by omega
    have := h5 q hq
    unfold lawM at this ⊢
    rw [hqv] at this ⊢
    rw [e 139 (by decide) (by decide), e 140 (by decide) (by decide)]
    rcases this with h | ⟨n1, f, e1, e2, e3, e4, e5⟩
    · exact Or.inl h
    · refine Or.inr ⟨n1, f, e1, e2, e3, e4, fun j br hj => ?_⟩
      obtain ⟨b1, b2⟩ := e5 j br hj
      exact brR_side hv (fun c h1 h2 => by rw [e c (by omega) (by omega)]) (fun i _ _ => ⟨by rw [e 146 (by decide) (by decide)], by rw [e 147 (by decide) (by decide)]⟩) b1 b2
theorem mI_row {a : aS} {μ μ' : jM} (e : ∀ c, 112 ≤ c → c < 167 → μ'.1 c = μ.1 c) (h : mI a μ) : mI a μ' := by
  obtain ⟨⟨v, m1, m2, m3, m4⟩, h2, h3, h4, h5, h6⟩ := h
  refine ⟨⟨v, txM_row e m1, by rw [e 151 (by decide) (by decide)]; exact m2, by rw [e 152 (by decide) (by decide)]; exact m3, m4⟩, ?_, by rw [e 112 (by decide) (by decide)]; exact h3, ?_, ?_, ?_⟩
  · unfold tapeM at h2 ⊢; rw [e 112 (by decide) (by decide), e 113 (by decide) (by decide)]; exact h2
  · unfold histM at h4 ⊢; rw [e 112 (by decide) (by decide), e 157 (by decide) (by decide)]; exact h4
  · unfold slotM at h5 ⊢; rw [e 165 (by decide) (by decide), e 166 (by decide) (by decide)]; exact h5
  · unfold dreamM at h6 ⊢; rw [e 112 (by decide) (by decide), e 159 (by decide) (by decide), e 160 (by decide) (by decide), e 161 (by decide) (by decide)]; exact h6
theorem gN_112 {a f x : Nat} (h : gN a f = some x) : a = 112 := by
  unfold gN at h
  split at h
  · rfl
  · cases h
theorem gP_112 {a f x : Nat} (h : gP a f = some x) : a < 112 := by
  unfold gP at h
  split at h <;> first | omega | cases h
/-- a call of the class leaves the reference -/
theorem hiC.mI {a : aS} {μ μ' : jM} (h : hiC μ μ') (hm : mI a μ) : mI a μ' := mI_row (fun c h1 h2 => (h.1 c h1 h2).1) hm
theorem hiC.nn {μ μ' : jM} (h : hiC μ μ') (hP : gNN μ) : gNN μ' := fun a f x hx => by
  have := gN_112 hx
  subst this
  rw [(h.1 112 (by decide) (by decide)).2.2]; exact hP _ f x hx
theorem hiC.kwm {μ μ' : jM} (h : hiC μ μ') (hk : kwM μ) : kwM μ' := by unfold kwM at hk ⊢; rw [(h.1 119 (by decide) (by decide)).2.1]; exact hk
/-- a call of the reference leaves the class -/
theorem loG.cJ {G : jG} {a : aS} {B t d : Nat} {μ μ' : jM} (h : loG μ μ') (hc : cJ G a B t d μ) : cJ G a B t d μ' := by
  obtain ⟨h1, ⟨hd, hdt, hd7, hdo⟩, h3, h4, h5, h6, h7, h8, h9, h10⟩ := hc
  have ht2 := h1.1.2.2.1.1
  have ec : ∀ c, c < 112 ∨ 167 ≤ c → μ'.1 c = μ.1 c := fun c hc => (h.2.2 c hc).1
  refine ⟨⟨peI_mv h1.1 (tO_of h.1 h1.1.1) (by rw [h.1]; exact h1.1.2.1) (fun c hc => h.2.2 c (by omega)), by rw [ec 53 (by omega)]; exact h1.2.1, h1.2.2.1, by rw [ec 59 (by omega)]; exact h1.2.2.2⟩, ⟨hd, hdt, by rw [h.1]; exact hd7, tO_of h.1 hdo⟩, ?_, by rw [ec 0 (by omega)]; exact h4, ?_, ?_, ?_, ?_, by rw [ec 65 (by omega)]; exact h9, ?_⟩
  · unfold tapeC at h3 ⊢; rw [ec 1 (by omega), ec 2 (by omega)]; exact h3
  · unfold histC at h5 ⊢; rw [ec 54 (by omega), ec 55 (by omega)]; exact h5
  · unfold slotC at h6 ⊢; rw [ec 54 (by omega), ec 56 (by omega)]; exact h6
  · unfold dreamC at h7 ⊢; rw [ec 63 (by omega), ec 66 (by omega), ec 67 (by omega), ec 68 (by omega)]; exact h7
  · unfold lrC at h8 ⊢
    rw [h.1, ec 63 (by omega)]
    rcases h8 with h | ⟨so, wr, m, e1, e2, e3, e4, e5, e6, e7, e8, e9, e10, e11⟩
    · exact Or.inl h
    · exact Or.inr ⟨so, wr, m, e1, e2, e3, e4, e5, e6, e7, e8, e9, by rw [ec so (by omega)]; exact e10, by rw [ec wr (by omega)]; exact e11⟩
  · unfold anI at h10 ⊢; rw [ec 57 (by omega), ec 60 (by omega), ec 61 (by omega)]; exact h10
theorem loG.pp {μ μ' : jM} (h : loG μ μ') (hP : gPP μ) : gPP μ' := gPP_of h.1 hP
theorem loG.kw {μ μ' : jM} (h : loG μ μ') (hk : kwC μ) : kwC μ' := by unfold kwC at hk ⊢; rw [(h.2.2 8 (by decide)).2]; exact hk
theorem loG.vK {μ μ' : jM} (h : loG μ μ') (hk : vK μ) : vK μ' := fun d hd q hq i hi => by
  rw [(h.2.2 (lw d q) (by unfold lw; omega)).1]; exact hk d hd q hq i hi
theorem loG.kwm {μ μ' : jM} (h : loG μ μ') (hk : kwM μ) : kwM μ' := by unfold kwM at hk ⊢; rw [h.2.1]; exact hk
theorem loG.cl {G : jG} {μ μ' : jM} (h : loG μ μ') (hk : jCl G μ) : jCl G μ' := fun a f x ha hx => hk a f x ha (by rw [h.1] at hx; exact hx)
/-- what stands between the law's calls -/
def lwI (G : jG) (a : aS) (B : Nat) (μ : jM) : Prop := (gMM G ∧ gGG G ∧ 167 ≤ G.length) ∧ (∃ t d, cJ G a B t d μ) ∧ mI a μ ∧ aOK a B ∧ byO (gY a) ∧ (gPP μ ∧ gNN μ) ∧ (kwC μ ∧ vK μ ∧ kwM μ) ∧ jCl G μ
theorem gMM.C {G : jG} (h : gMM G) : gGG G := fun a sh hx => h a sh (by
  have : gM = gC ++ gM.drop 112 := by decide +kernel
  rw [this, List.getElem?_append_left (List.getElem?_eq_some_iff.mp hx).1]; exact hx)
