/-! LAWS: an E as a row of works on a pile (0 number, 1 variable, 2 + 3 - 4 * 5 /), a LAW as branches -/
abbrev sE : Type := List (Nat × Int32)
def rA (k : Nat) (a b : Int32) : Int32 := if k = 2 then a + b else if k = 3 then a - b else if k = 4 then a * b else a / b
def rE (vr : Nat → Int32) : sE → List Int32 → Option (List Int32)
  | [], s => some s
  | (k, v) :: r, s => if k = 0 then rE vr r (v :: s) else if k = 1 then rE vr r (vr v.toNatClampNeg :: s) else match s with
    | b :: a :: s' => if k = 5 ∧ b = 0 then none else rE vr r (rA k a b :: s')
    | _ => none
/-- it never takes from an empty pile, has 16 at most, names variables 0 .. 8 -/
def rW : sE → Nat → Option Nat
  | [], n => some n
  | (k, v) :: r, n => if k = 0 then (if n < 16 then rW r (n + 1) else none) else if k = 1 then (if n < 16 ∧ v.toNatClampNeg < 9 ∧ ¬ v < 0 then rW r (n + 1) else none) else if 2 ≤ n ∧ k ≤ 5 then rW r (n - 1) else none
def seg (cd ci : Nat → Int32) (o : Nat) (e : sE) : Prop := ∀ (j : Nat) (q : Nat × Int32), e[j]? = some q → cd (o + j) = nI q.1 ∧ ci (o + j) = q.2
def pileR (f : Nat → Int32) : List Int32 → Prop
  | [] => True
  | x :: s => f s.length = x ∧ pileR f s
theorem seg_tl {cd ci : Nat → Int32} {o : Nat} {q : Nat × Int32} {e : sE} (h : seg cd ci o (q :: e)) : cd o = nI q.1 ∧ ci o = q.2 ∧ seg cd ci (o + 1) e := by
  have h0 := h 0 q rfl
  refine ⟨h0.1, h0.2, fun j x hx => ?_⟩
  have := h (j + 1) x hx
  rw [show o + (j + 1) = o + 1 + j by omega] at this
  exact this
theorem pileR_off {f : Nat → Int32} {i : Nat} {x : Int32} : ∀ (s : List Int32), s.length ≤ i → pileR f s → pileR (upd f i x) s := by
  intro s
  induction s with
  | nil => intro _ _; trivial
  | cons y s ih =>
    intro h hp
    have hl : s.length + 1 ≤ i := h
    exact ⟨by rw [upd_ne (by omega)]; exact hp.1, ih (by omega) hp.2⟩
/-- what a row of works leaves: its number, or broken by a division by 0 -/
def sPost (vr : Nat → Int32) (e : sE) (s : List Int32) (μ : jM) (r : Int32) (μ' : jM) : Prop :=
  (∃ x s', rE vr e s = some (x :: s') ∧ r = x ∧ ∃ p, μ' = sI μ 150 p) ∨ (rE vr e s = none ∧ r = 0 ∧ ∃ p, μ' = wI (sI μ 150 p) 112 55 1)
theorem sPost_wI {vr : Nat → Int32} {e : sE} {s : List Int32} {μ μ' : jM} {r : Int32} {i : Nat} {x : Int32} (h : sPost vr e s (wI μ 150 i x) r μ') : sPost vr e s μ r μ' := by
  rcases h with ⟨x1, s', h1, h2, p, h3⟩ | ⟨h1, h2, p, h3⟩
  · exact Or.inl ⟨x1, s', h1, h2, p, by rw [h3, wI_as, sI_sI]⟩
  · exact Or.inr ⟨h1, h2, p, by rw [h3, show sI (wI μ 150 i x) 150 p = sI μ 150 p from by rw [wI_as, sI_sI]]⟩
section LawM
variable {l : Launch} {G : jG} {φ : Int32 → jM → Prop}
theorem termOf_loop (hG : gMM G) (N : Nat) (hN : N ≤ 840) : ∀ (e : sE) (o : Nat) (s : List Int32) (μ : jM), gNN μ → rW e s.length = some 1 → seg (μ.1 146) (μ.1 147) o e → o + e.length = N → s.length ≤ 16 → pileR (μ.1 150) s → (∀ r μ', sPost (μ.1 149) e s μ r μ' → φ r μ') →
    J l mX12_termOf (jZ0 0 G (pI φ)) G 0 0 5 [.ref 112, .null, .int (nI N), .int (nI s.length), .int (nI o), .null, .null, .null] [] μ := by
  intro e
  induction e with
  | nil =>
    intro o s μ hP hw hs ho hl hp hφ
    have hlen : s.length = 1 := by simpa [rW] using hw
    obtain ⟨x, rfl⟩ := List.length_eq_one_iff.mp hlen
    have ho' : o = N := by simpa using ho
    subst ho'
    refine b_X12_termOf_5 hG hP (fun _ => hφ _ _ (Or.inl ⟨x, [], rfl, hp.1, _, sI_self.symm⟩)) ?_ ?_ ?_ ?_ ?_ ?_ ?_ ?_ ?_ <;> intro h <;> exact absurd (nI_le (Nat.le_refl o) (by omega)) h
  | cons q e ih =>
    obtain ⟨k, v⟩ := q
    intro o s μ hP hw hs ho hl hp hφ
    obtain ⟨hcd, hci, hs'⟩ := seg_tl hs
    have hcd : μ.1 146 o = nI k := hcd
    have hci : μ.1 147 o = v := hci
    have ho1 : o + 1 + e.length = N := by simp at ho; omega
    have hcl : (nI o).toNatClampNeg = o := nI_clamp (by omega)
    have hlt : ¬ (nI N ≤ nI o) := nI_ge (by omega) (by omega)
    have hin : vp_in (nI o) 840 := vp_in_nI (by omega) (by omega)
    by_cases hk0 : k = 0
    · subst hk0
      simp only [rW, if_true] at hw
      split at hw
      next hn =>
        refine b_X12_termOf_5 hG hP (fun h => absurd h hlt) (fun _ => hin) ?_ ?_ ?_ ?_ ?_ ?_ ?_ (fun _ _ _ => ?_)
        · intro _ h; rw [hcl, hcd] at h; exact absurd h (by decide)
        · intro _ h; rw [hcl, hcd] at h; exact absurd h (by decide)
        · intro _ h; rw [hcl, hcd] at h; exact absurd h (by decide)
        · intro _ h; rw [hcl, hcd] at h; exact absurd h (by decide)
        · intro _ h; rw [hcl, hcd] at h; exact absurd h (by decide)
        · intro _ _ h; rw [hcl, hcd] at h; exact absurd (by decide) h
        · intro _ _ h; rw [hcl, hcd] at h; exact absurd (by decide) h
        · rw [hcl, hci]
          refine b_X12_termOf_58 hG hP (vp_in_nI (by omega) (by omega)) ?_
          rw [nI_clamp (by omega), nI_inc]
          refine b_X12_termOf_159 hG hP ?_
          rw [nI_inc]
          exact ih (o + 1) (v :: s) _ hP hw hs' ho1 hn ⟨by rw [wI_at], by rw [wI_eq]; exact pileR_off s (Nat.le_refl _) hp⟩ (fun r μ' h => hφ r μ' (by
            have h := sPost_wI h; rw [wI_ne (by decide)] at h
            simpa [sPost, rE] using h))
      next => cases hw
    · by_cases hk1 : k = 1
      · subst hk1
        simp only [rW, if_true, show ¬ (1 = 0) from by decide, if_false] at hw
        split at hw
        next hn =>
          obtain ⟨hn, hv9, hv0⟩ := hn
          refine b_X12_termOf_5 hG hP (fun h => absurd h hlt) (fun _ => hin) ?_ ?_ ?_ ?_ ?_ ?_ (fun _ _ _ => ?_) ?_
          · intro _ h; rw [hcl, hcd] at h; exact absurd h (by decide)
          · intro _ h; rw [hcl, hcd] at h; exact absurd h (by decide)
          · intro _ h; rw [hcl, hcd] at h; exact absurd h (by decide)
          · intro _ h; rw [hcl, hcd] at h; exact absurd h (by decide)
          · intro _ h; rw [hcl, hcd] at h; exact absurd h (by decide)
          · intro _ _ h
            rw [hcl, hci]
            exact vpK (by rintro (h | h); exact hv0 h; exact Nat.not_le.mpr hv9 h)
          · rw [hcl, hci]
            refine b_X12_termOf_58 hG hP (vp_in_nI (by omega) (by omega)) ?_
            rw [nI_clamp (by omega), nI_inc]
            refine b_X12_termOf_159 hG hP ?_
            rw [nI_inc]
            exact ih (o + 1) (μ.1 149 v.toNatClampNeg :: s) _ hP hw hs' ho1 hn ⟨by rw [wI_at], by rw [wI_eq]; exact pileR_off s (Nat.le_refl _) hp⟩ (fun r μ' h => hφ r μ' (by
              have h := sPost_wI h; rw [wI_ne (by decide)] at h
              simpa [sPost, rE] using h))
          · intro _ _ h; rw [hcl, hcd] at h; exact absurd h (by decide)
        next => cases hw
      · simp only [rW, hk0, hk1, if_false] at hw
        split at hw
        next hn =>
          obtain ⟨hn, hk5⟩ := hn
          match s, hn, hl, hp, hw, hφ with
          | b :: a :: s', hn, hl, hp, hw, hφ =>
            have hl' : s'.length + 2 ≤ 16 := hl
            have hb : μ.1 150 (s'.length + 1) = b := hp.1
            have ha : μ.1 150 s'.length = a := hp.2.1
            have e1 : nI (b :: a :: s').length + (-1) = nI (s'.length + 1) := nI_dec _
            have e2 : nI (s'.length + 1) - 1 = nI s'.length := nI_pred _
            have hge : (2 : Int32) ≤ nI k := nI_le (a := 2) (by omega) (by omega)
            have key : (¬ (k = 5 ∧ b = 0)) → J l mX12_termOf (jZ0 0 G (pI φ)) G 0 0 104 [.ref 112, .null, .int (nI N), .int (nI (s'.length + 1)), .int (nI o), .int (nI k), .int a, .int b] [] μ := by
              intro hbr
              have fin : J l mX12_termOf (jZ0 0 G (pI φ)) G 0 0 158 [.ref 112, .null, .int (nI N), .int (nI (s'.length + 1)), .int (nI o), .null, .null, .null] [.int (rA k a b), .int (nI s'.length), .ref 150] μ := by
                refine b_X12_termOf_158 hG hP (vp_in_nI (by omega) (by omega)) ?_
                rw [nI_clamp (by omega)]
                refine b_X12_termOf_159 hG hP ?_
                rw [nI_inc]
                exact ih (o + 1) (rA k a b :: s') _ hP (by simpa using hw) hs' ho1 (by simp; omega) ⟨by rw [wI_at], by rw [wI_eq]; exact pileR_off s' (Nat.le_refl _) hp.2.2⟩ (fun r μ' h => hφ r μ' (by
                  have h := sPost_wI h; rw [wI_ne (by decide)] at h
                  simpa [sPost, rE, hk0, hk1, hbr] using h))
              have hkk : k = 2 ∨ k = 3 ∨ k = 4 ∨ k = 5 := by omega
              refine b_X12_termOf_104 hG hP ?_ ?_ ?_ ?_ ?_
              · intro h2 h3 h4 hb0
                rcases hkk with rfl | rfl | rfl | rfl
                · exact h2 rfl
                · exact h3 rfl
                · exact h4 rfl
                · exact hbr ⟨rfl, hb0⟩
              · intro h2 h3 h4
                rw [e2]
                rcases hkk with rfl | rfl | rfl | rfl
                · exact absurd rfl h2
                · exact absurd rfl h3
                · exact absurd rfl h4
                · exact fin
              · intro h2 h3 h4
                rw [e2]
                rcases hkk with rfl | rfl | rfl | rfl
                · exact absurd rfl h2
                · exact absurd rfl h3
                · exact fin
                · exact absurd h4 (by decide)
              · intro h2 h3
                rw [e2]
                rcases hkk with rfl | rfl | rfl | rfl
                · exact absurd rfl h2
                · exact fin
                · exact absurd h3 (by decide)
                · exact absurd h3 (by decide)
              · intro h2
                rw [e2]
                rcases hkk with rfl | rfl | rfl | rfl
                · exact fin
                · exact absurd h2 (by decide)
                · exact absurd h2 (by decide)
                · exact absurd h2 (by decide)
            refine b_X12_termOf_5 hG hP (fun h => absurd h hlt) (fun _ => hin) ?_ ?_ ?_ ?_ ?_ ?_ ?_ ?_
            · intro _ _; rw [e1, e2]; exact vp_in_nI (by omega) (by omega)
            · intro _ _; rw [e1]; exact vp_in_nI (by omega) (by omega)
            · intro _ _ h
              rw [hcl, hcd] at h
              rw [e1, e2, hcl, hcd, nI_clamp (by omega), nI_clamp (by omega), ha, hb]
              exact key (fun z => h (by rw [z.1]; rfl))
            · intro _ _ h h0
              rw [e1, nI_clamp (by omega), hb] at h0
              rw [e1, e2, hcl, hcd, nI_clamp (by omega), nI_clamp (by omega), ha, hb]
              exact key (fun z => h0 z.2)
            · intro _ _ h h0
              rw [e1, nI_clamp (by omega), hb] at h0
              rw [hcl, hcd] at h
              have hk : k = 5 := (nI_eq (b := 5) (by omega) (by omega)).mp h
              refine hφ _ _ (Or.inr ⟨by simp [rE, hk, h0], rfl, μ.1 150, by rw [sI_self]⟩)
            · intro _ h; rw [hcl, hcd] at h; exact absurd hge h
            · intro _ h; rw [hcl, hcd] at h; exact absurd hge h
            · intro _ h; rw [hcl, hcd] at h; exact absurd hge h
        next => cases hw
theorem c_X12_termOf (hG : gMM G) {μ : jM} (hP : gNN μ) {o : Nat} {e : sE} {x1 x2 : Int32} (h1 : x1 = nI o) (h2 : x2 = nI (o + e.length)) (hw : rW e 0 = some 1) (hseg : seg (μ.1 146) (μ.1 147) o e) (ho : o + e.length ≤ 840) : jC0 l mX12_termOf 0 G [.ref 112, .int x1, .int x2] μ (pI (sPost (μ.1 149) e [] μ)) := by
  subst h1; subst h2
  refine jC0.of' (ls := [.ref 112, .int (nI o), .int (nI (o + e.length)), .null, .null, .null, .null, .null]) rfl rfl rfl (fun _ _ => Nat.le_of_ble_eq_true rfl) ?_
  refine b_X12_termOf_0 hG hP ?_
  exact termOf_loop hG _ ho e o [] μ hP hw hseg rfl (by simp) trivial (fun r μ' h => h)
end LawM
