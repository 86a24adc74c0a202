/-! what the reference's methods leave as it was: all but the cells C and the fields F of 112 -/
def mOff (C F : List Nat) (μ μ' : jM) : Prop := μ'.2 = μ.2 ∧ (∀ c, c ≠ 112 → c ∉ C → μ'.1 c = μ.1 c) ∧ ∀ f, f ∉ F → μ'.1 112 f = μ.1 112 f
theorem mOff.refl {C F : List Nat} {μ : jM} : mOff C F μ μ := ⟨rfl, fun _ _ _ => rfl, fun _ _ => rfl⟩
theorem mOff.trans {C F : List Nat} {μ μ1 μ2 : jM} (h1 : mOff C F μ μ1) (h2 : mOff C F μ1 μ2) : mOff C F μ μ2 := ⟨h2.1.trans h1.1, fun c a b => (h2.2.1 c a b).trans (h1.2.1 c a b), fun f a => (h2.2.2 f a).trans (h1.2.2 f a)⟩
theorem mOff.mono {C F C' F' : List Nat} {μ μ' : jM} (h : mOff C F μ μ') (hc : ∀ c ∈ C, c ∈ C') (hf : ∀ f ∈ F, f ∈ F') : mOff C' F' μ μ' := ⟨h.1, fun c a b => h.2.1 c a (fun z => b (hc c z)), fun f a => h.2.2 f (fun z => a (hf f z))⟩
theorem mOff_sI {C F : List Nat} {μ : jM} {c : Nat} {f : Nat → Int32} (h : c ≠ 112) (hc : c ∈ C) : mOff C F μ (sI μ c f) := ⟨rfl, fun a _ hb => sI_ne (fun z => hb (z ▸ hc)), fun _ _ => by rw [sI_ne (fun z => h z.symm)]⟩
theorem mOff_wC {C F : List Nat} {μ : jM} {c i : Nat} {x : Int32} (h : c ≠ 112) (hc : c ∈ C) : mOff C F μ (wI μ c i x) := mOff_sI h hc
theorem mOff_wF {C F : List Nat} {μ : jM} {i : Nat} {x : Int32} (hi : i ∈ F) : mOff C F μ (wI μ 112 i x) := ⟨rfl, fun a h1 _ => wI_ne h1, fun f hf => wI_off' (fun z => hf (by rw [z]; exact hi))⟩
theorem mOff.gNN {C F : List Nat} {μ μ' : jM} (h : mOff C F μ μ') (hP : gNN μ) : gNN μ' := gNN_of (by rw [h.1]) hP
theorem mOff.c {C F : List Nat} {μ μ' : jM} (h : mOff C F μ μ') (c : Nat) (h1 : c ≠ 112 := by decide) (h2 : c ∉ C := by decide) : μ'.1 c = μ.1 c := h.2.1 c h1 h2
theorem mOff.f {C F : List Nat} {μ μ' : jM} (h : mOff C F μ μ') (f : Nat) (h1 : f ∉ F := by decide) : μ'.1 112 f = μ.1 112 f := h.2.2 f h1
/-! LAWS as branches -/
abbrev sLaw : Type := List (Option (sE × sE) × sE)
def sEv (vr : Nat → Int32) (e : sE) : Option Int32 := (rE vr e []).bind List.head?
def lE (vr : Nat → Int32) : sLaw → Option Int32
  | [] => some 0
  | (none, w) :: _ => sEv vr w
  | (some (u, v), w) :: r => match sEv vr u, sEv vr v with
    | some a, some b => if a < b then sEv vr w else lE vr r
    | _, _ => none
def sHeld (most : Int32) : Option Int32 → Int32
  | none => 0
  | some w => if w < 0 then 0 else if most < w then most else w
def lawV (vr : Nat → Int32) (L : sLaw) (most : Int32) : Int32 := sHeld most (lE vr L)
def segOK (μ : jM) (o : Nat) (e : sE) : Prop := rW e 0 = some 1 ∧ seg (μ.1 146) (μ.1 147) o e ∧ o + e.length ≤ 840
def brR (μ : jM) (b : Nat) (br : Option (sE × sE) × sE) : Prop :=
  (∃ o, segOK μ o br.2 ∧ μ.1 144 b = nI o ∧ μ.1 145 b = nI (o + br.2.length)) ∧ match br.1 with
  | none => μ.1 141 b = 0
  | some (u, v) => ¬ μ.1 141 b = 0 ∧ (∃ o, segOK μ o u ∧ μ.1 142 b = nI o ∧ μ.1 143 b = nI (o + u.length)) ∧ ∃ o, segOK μ o v ∧ μ.1 143 b = nI o ∧ μ.1 144 b = nI (o + v.length)
theorem brR_off {μ μ' : jM} (h : mOff [150] [55] μ μ') {b : Nat} {br : Option (sE × sE) × sE} (hb : brR μ b br) : brR μ' b br := by
  unfold brR segOK at hb ⊢
  rw [h.c 141, h.c 142, h.c 143, h.c 144, h.c 145, h.c 146, h.c 147]
  exact hb
theorem sPost_any {vr : Nat → Int32} {e : sE} {μ μ' : jM} {r : Int32} (h : sPost vr e [] μ r μ') : mOff [150] [55] μ μ' ∧ ((μ'.1 112 55 = μ.1 112 55 ∧ sEv vr e = some r) ∨ (¬ μ'.1 112 55 = 0 ∧ sEv vr e = none)) := by
  rcases h with ⟨x, s', h1, h2, p, rfl⟩ | ⟨h1, h2, p, rfl⟩
  · exact ⟨mOff_sI (by decide) (by decide), Or.inl ⟨by rw [sI_ne (by decide)], by simp [sEv, h1, h2]⟩⟩
  · exact ⟨(mOff_sI (C := [150]) (F := [55]) (by decide) (by decide)).trans (mOff_wF (by decide)), Or.inr ⟨by rw [wI_at]; decide, by simp [sEv, h1]⟩⟩
theorem sPost_some {vr : Nat → Int32} {e : sE} {μ μ' : jM} {r : Int32} (h : sPost vr e [] μ r μ') (hb : μ.1 112 55 = 0) : mOff [150] [55] μ μ' ∧ ((μ'.1 112 55 = 0 ∧ sEv vr e = some r) ∨ (¬ μ'.1 112 55 = 0 ∧ sEv vr e = none)) := by
  have := sPost_any h; rw [hb] at this; exact this
section Asks
variable {l : Launch} {G : jG} {φ : Int32 → jM → Prop}
theorem asks_end (hG : gMM G) {most r : Int32} {o : Option Int32} {μ : jM} (hP : gNN μ) (hm : 0 ≤ most) (ho : (μ.1 112 55 = 0 ∧ o = some r) ∨ (¬ μ.1 112 55 = 0 ∧ o = none)) (hφ : φ (sHeld most o) μ) : J l mX12_asks (jZ0 1 G (pI φ)) G 0 0 142 [.ref 112, .null, .null, .int most, .null, .null, .null, .null] [.int r] μ := by
  refine b_X12_asks_142 hG hP (fun h => ?_) (fun h h1 h2 => ?_) (fun h h1 h2 => ?_) (fun h h1 => ?_)
  · rcases ho with ⟨h3, rfl⟩ | ⟨h3, rfl⟩
    · exact absurd h3 h
    · exact hφ
  · rcases ho with ⟨h3, rfl⟩ | ⟨h3, rfl⟩
    · rw [sHeld, if_neg (by rw [i32_lt]; rw [i32_le] at h1; omega), if_neg (by rw [i32_lt]; rw [i32_le] at h2; omega)] at hφ; exact hφ
    · exact absurd h h3
  · rcases ho with ⟨h3, rfl⟩ | ⟨h3, rfl⟩
    · rw [sHeld, if_neg (by rw [i32_lt]; rw [i32_le] at h1; omega), if_pos (by rw [i32_lt]; rw [i32_le] at h2; omega)] at hφ; exact hφ
    · exact absurd h h3
  · rcases ho with ⟨h3, rfl⟩ | ⟨h3, rfl⟩
    · rw [sHeld, if_pos (by rw [i32_lt]; rw [i32_le] at h1; omega)] at hφ; exact hφ
    · exact absurd h h3
theorem asks_loop (hG : gMM G) {most : Int32} (hm : 0 ≤ most) (i : Nat) (hi : i < 6) : ∀ (L : sLaw) (b : Nat) (μ : jM), gNN μ → (∀ (j : Nat) br, L[j]? = some br → brR μ (b + j) br) → μ.1 140 i = nI (b + L.length) → b + L.length ≤ 260 → μ.1 112 55 = 0 → (∀ μ', mOff [150] [55] μ μ' → φ (lawV (μ.1 149) L most) μ') →
    J l mX12_asks (jZ0 1 G (pI φ)) G 0 0 43 [.ref 112, .null, .null, .int most, .int (nI i), .int (nI b), .null, .null] [] μ := by
  intro L
  induction L with
  | nil =>
    intro b μ hP hR he hb hz hφ
    have hcl : (nI i).toNatClampNeg = i := nI_clamp (by omega)
    have hle : μ.1 140 (nI i).toNatClampNeg ≤ nI b := by rw [hcl, he]; exact nI_le (by simp) (by simp at hb; omega)
    refine b_X12_asks_43 (ψ1 := fun _ _ => True) (ψ2 := fun _ _ => True) hG hP (vp_in_nI hi (by omega)) (fun _ => ?_) ?_ ?_ ?_ ?_ ?_
    · have h0 : ¬ most < 0 := by rw [i32_lt]; rw [i32_le] at hm; omega
      have := hφ μ mOff.refl
      simpa [lawV, lE, sHeld, h0] using this
    all_goals (intro h; exact absurd hle h)
  | cons br L ih =>
    obtain ⟨ts, w⟩ := br
    intro b μ hP hR he hb hz hφ
    have hb' : b + (L.length + 1) ≤ 260 := hb
    have hcl : (nI i).toNatClampNeg = i := nI_clamp (by omega)
    have hbl : (nI b).toNatClampNeg = b := nI_clamp (by omega)
    have hbi : vp_in (nI b) 260 := vp_in_nI (by omega) (by omega)
    have hgt : ¬ μ.1 140 (nI i).toNatClampNeg ≤ nI b := by rw [hcl, he]; exact nI_ge (by simp) (by simp; omega)
    have h0 := hR 0 _ rfl
    rw [Nat.add_zero] at h0
    obtain ⟨⟨o, hso, ho1, ho2⟩, hts⟩ := h0
    have hterm : ∀ μ1, gNN μ1 → mOff [150] [55] μ μ1 → jC0 l mX12_termOf 0 G [.ref 112, .int (μ1.1 144 b), .int (μ1.1 145 b)] μ1 (pI (sPost (μ1.1 149) w [] μ1)) := by
      intro μ1 hP1 hm1
      refine c_X12_termOf hG hP1 (by rw [hm1.c 144]; exact ho1) (by rw [hm1.c 145]; exact ho2) hso.1 (by rw [hm1.c 146, hm1.c 147]; exact hso.2.1) hso.2.2
    cases ts with
    | none =>
      have ht0 : μ.1 141 b = 0 := hts
      refine b_X12_asks_43 (ψ1 := sPost (μ.1 149) w [] μ) (ψ2 := fun _ _ => True) hG hP (vp_in_nI hi (by omega)) (fun h => absurd h hgt) (fun _ => hbi) (fun _ _ => ?_) (fun _ _ => ?_) (fun _ h => ?_) (fun _ h => ?_)
      · rw [hbl]; exact hterm μ hP mOff.refl
      · intro r μ1 hr
        obtain ⟨hm1, hr⟩ := sPost_some hr hz
        exact asks_end hG (hm1.gNN hP) hm hr (hφ μ1 hm1)
      · rw [hbl] at h; exact absurd ht0 h
      · rw [hbl] at h; exact absurd ht0 h
    | some uv =>
      obtain ⟨u, v⟩ := uv
      obtain ⟨ht1, ⟨o1, hs1, hu1, hu2⟩, o2, hs2, hv1, hv2⟩ := hts
      refine b_X12_asks_43 (ψ1 := fun _ _ => True) (ψ2 := sPost (μ.1 149) u [] μ) hG hP (vp_in_nI hi (by omega)) (fun h => absurd h hgt) (fun _ => hbi) (fun _ h => ?_) (fun _ h => ?_) (fun _ _ => ?_) (fun _ _ => ?_)
      · rw [hbl] at h; exact absurd h ht1
      · rw [hbl] at h; exact absurd h ht1
      · rw [hbl]
        exact c_X12_termOf hG hP hu1 hu2 hs1.1 hs1.2.1 hs1.2.2
      · intro r1 μ1 hr1
        obtain ⟨hm1, hr1⟩ := sPost_some hr1 hz
        have hP1 := hm1.gNN hP
        refine b_X12_asks_83 (ψ0 := sPost (μ1.1 149) v [] μ1) hG hP1 hbi ?_ ?_
        · rw [hbl, hm1.c 143, hm1.c 144]
          exact c_X12_termOf hG hP1 hv1 hv2 hs2.1 (by rw [hm1.c 146, hm1.c 147]; exact hs2.2.1) hs2.2.2
        · intro r2 μ2 hr2
          obtain ⟨hm2, hr2⟩ := sPost_any hr2
          have hm02 := hm1.trans hm2
          have hP2 := hm02.gNN hP
          have hv149 : μ1.1 149 = μ.1 149 := hm1.c 149
          rw [hv149] at hr2
          refine b_X12_asks_103 (ψ0 := sPost (μ2.1 149) w [] μ2) hG hP2 (fun _ _ => hbi) (fun _ _ => ?_) (fun hz2 hlt => ?_) (fun hz2 hlt => ?_) (fun hz2 => ?_)
          · rw [hbl]; exact hterm μ2 hP2 hm02
          · intro r3 μ3 hr3
            obtain ⟨hm3, hr3⟩ := sPost_some hr3 hz2
            rw [hm02.c 149] at hr3
            have hm03 := hm02.trans hm3
            have hu : sEv (μ.1 149) u = some r1 := by
              rcases hr2 with ⟨h1, h2⟩ | ⟨h1, h2⟩
              · rcases hr1 with ⟨h3, h4⟩ | ⟨h3, h4⟩
                · exact h4
                · rw [h1] at hz2; exact absurd hz2 h3
              · exact absurd hz2 h1
            have hv : sEv (μ.1 149) v = some r2 := by
              rcases hr2 with ⟨h1, h2⟩ | ⟨h1, h2⟩
              · exact h2
              · exact absurd hz2 h1
            refine asks_end hG (hm03.gNN hP) hm hr3 ?_
            have := hφ μ3 hm03
            simpa [lawV, lE, hu, hv, hlt] using this
          · have hu : sEv (μ.1 149) u = some r1 := by
              rcases hr2 with ⟨h1, h2⟩ | ⟨h1, h2⟩
              · rcases hr1 with ⟨h3, h4⟩ | ⟨h3, h4⟩
                · exact h4
                · rw [h1] at hz2; exact absurd hz2 h3
              · exact absurd hz2 h1
            have hv : sEv (μ.1 149) v = some r2 := by
              rcases hr2 with ⟨h1, h2⟩ | ⟨h1, h2⟩
              · exact h2
              · exact absurd hz2 h1
            rw [nI_inc]
            refine ih (b + 1) μ2 hP2 (fun j br hj => ?_) (by rw [hm02.c 140, he]; congr 1; simp; omega) (by omega) hz2 (fun μ' hm' => ?_)
            · have := hR (j + 1) br hj
              rw [show b + (j + 1) = b + 1 + j by omega] at this
              exact brR_off hm02 this
            · have := hφ μ' (hm02.trans hm')
              rw [hm02.c 149]
              simpa [lawV, lE, hu, hv, hlt] using this
          · have := hφ μ2 hm02
            have hn : lE (μ.1 149) ((some (u, v), w) :: L) = none := by
              rcases hr2 with ⟨h1, h2⟩ | ⟨h1, h2⟩
              · rcases hr1 with ⟨h3, h4⟩ | ⟨h3, h4⟩
                · rw [h1] at hz2; exact absurd h3 hz2
                · simp [lE, h4]
              · cases hu : sEv (μ.1 149) u <;> simp [lE, h2, hu]
            simpa [lawV, hn, sHeld] using this
/-- a LAW as the reference holds it: told, or not and so plain -/
def brG (μ : jM) (b o : Nat) (s : Bool) : Prop := (∃ x y, μ.1 144 b = nI x ∧ μ.1 145 b = nI y ∧ o ≤ x ∧ x ≤ y ∧ y ≤ o + 420) ∧ (s = true → ∃ x, μ.1 142 b = nI x ∧ o ≤ x ∧ x ≤ o + 420)
def lawM (μ : jM) (i : Nat) (L : sLaw) (plain : Prop) : Prop := (μ.1 139 i = μ.1 140 i ∧ plain) ∨ (¬ μ.1 139 i = μ.1 140 i ∧ ∃ f, μ.1 139 i = nI f ∧ μ.1 140 i = nI (f + L.length) ∧ f + L.length ≤ 260 ∧ (130 * (i / 3) ≤ f ∧ f + L.length ≤ 130 * (i / 3) + 130) ∧ ∀ (j : Nat) br, L[j]? = some br → brR μ (f + j) br ∧ brG μ (f + j) (420 * (i / 3)) br.1.isSome)
theorem c_X12_asks (hG : gMM G) {μ : jM} (hP : gNN μ) {v q : Nat} {L : sLaw} {x plain most : Int32} (hv : v < 2) (hl : μ.1 112 18 = nI v) (hq : q < 3) (hx : x = nI q) (hm : 0 ≤ most) (hL : lawM μ (3 * v + q) L (lawV (μ.1 149) L most = plain)) : jC0 l mX12_asks 1 G [.ref 112, .int x, .int plain, .int most] μ (pI fun r μ' => r = lawV (μ.1 149) L most ∧ mOff [150] [55] μ μ') := by
  refine jC0.of' (ls := [.ref 112, .int x, .int plain, .int most, .null, .null, .null, .null]) rfl rfl rfl (fun _ _ => Nat.le_of_ble_eq_true rfl) ?_
  have hi : (3 * (μ.1 112 18)) + x = nI (3 * v + q) := by rw [hl, hx, show (3 : Int32) = nI 3 from rfl, pk_mul, nI_add]
  have hcl : (nI (3 * v + q)).toNatClampNeg = 3 * v + q := nI_clamp (by omega)
  refine b_X12_asks_0 hG hP (by rw [hi]; exact vp_in_nI (by omega) (by omega)) (fun h => ?_) (fun h => ?_)
  · rw [hi, hcl] at h ⊢
    rcases hL with ⟨h1, -⟩ | ⟨-, f, h1, h2, h3, -, h4⟩
    · exact absurd h1 h
    · have hm0 : mOff [150] [55] μ (wI μ 112 55 0) := mOff_wF (by decide)
      rw [h1]
      refine asks_loop hG hm (3 * v + q) (by omega) L f (wI μ 112 55 0) hP (fun j br hj => brR_off hm0 (h4 j br hj).1) (by rw [hm0.c 140]; exact h2) h3 wI_at (fun μ' hm' => ⟨by rw [hm0.c 149], hm0.trans hm'⟩)
  · rw [hi, hcl] at h
    rcases hL with ⟨h1, h2⟩ | ⟨h1, -⟩
    · exact ⟨h2.symm, mOff.refl⟩
    · exact absurd h h1
end Asks
