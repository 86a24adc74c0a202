theorem lgc0 {x y : Int64} : lg_cmp x y = 0 ↔ x = y := by
  exact lg_cmp_eq x y
theorem heldZ {m : Int32} (hm : 0 ≤ m.toInt) (w : Int32) : (if (0 : Int32) < (if w < m then w else m) then (if w < m then w else m) else 0) = if w < 0 then 0 else if m < w then m else w := by
  have e0 : (0 : Int32).toInt = 0 := rfl
  by_cases h1 : w < 0
  · rw [if_pos h1]
    have h2 : w < m := by rw [i32_lt] at h1 ⊢; omega
    rw [if_pos h2, if_neg (by rw [i32_lt] at h1 ⊢; omega)]
  · rw [if_neg h1]
    by_cases h3 : m < w
    · have h2 : ¬ w < m := by rw [i32_lt] at h3 ⊢; omega
      rw [if_pos h3, if_neg h2]
      by_cases h4 : (0 : Int32) < m
      · rw [if_pos h4]
      · rw [if_neg h4]; apply i32_ext; rw [i32_lt] at h4; omega
    · rw [if_neg h3]
      by_cases h2 : w < m
      · rw [if_pos h2]
        by_cases h4 : (0 : Int32) < w
        · rw [if_pos h4]
        · rw [if_neg h4]; apply i32_ext; rw [i32_lt] at h4 h1; omega
      · have e : w = m := by apply i32_ext; rw [i32_lt] at h2 h3; omega
        rw [if_neg h2, e]
        by_cases h4 : (0 : Int32) < m
        · rw [if_pos h4]
        · rw [if_neg h4]; apply i32_ext; rw [i32_lt] at h4; omega
theorem heldEq {m : Int32} (hm : 0 ≤ m.toInt) (o : Option Int32) : (if (0 : Int32) < (if lRes o < m then lRes o else m) then (if lRes o < m then lRes o else m) else 0) = sHeld m o := by
  cases o with
  | none =>
    refine (heldZ hm 0).trans ?_
    rw [if_neg (by decide), if_neg (by rw [i32_lt, show (0 : Int32).toInt = 0 from rfl]; omega)]; rfl
  | some w => exact heldZ hm w
/-- all else as it was: but for ints of cells PI, longs of cells PL -/
def cOff (PI PL : Nat → Prop) (μ μ' : jM) : Prop := μ'.2.2 = μ.2.2 ∧ (∀ c, ¬ PI c → μ'.1 c = μ.1 c) ∧ ∀ c, ¬ PL c → μ'.2.1 c = μ.2.1 c
theorem cOff.refl {PI PL : Nat → Prop} {μ : jM} : cOff PI PL μ μ := ⟨rfl, fun _ _ => rfl, fun _ _ => rfl⟩
theorem cOff.trans {PI PL : Nat → Prop} {μ μ1 μ2 : jM} (h1 : cOff PI PL μ μ1) (h2 : cOff PI PL μ1 μ2) : cOff PI PL μ μ2 := ⟨h2.1.trans h1.1, fun c h => (h2.2.1 c h).trans (h1.2.1 c h), fun c h => (h2.2.2 c h).trans (h1.2.2 c h)⟩
theorem cOff.mono {PI PL PI' PL' : Nat → Prop} {μ μ' : jM} (h : cOff PI PL μ μ') (hi : ∀ c, PI c → PI' c) (hl : ∀ c, PL c → PL' c) : cOff PI' PL' μ μ' := ⟨h.1, fun c hc => h.2.1 c (fun z => hc (hi c z)), fun c hc => h.2.2 c (fun z => hc (hl c z))⟩
theorem cOff.gPP {PI PL : Nat → Prop} {μ μ' : jM} (h : cOff PI PL μ μ') (hP : gPP μ) : gPP μ' := gPP_of h.1 hP
theorem cOff.tO {PI PL : Nat → Prop} {μ μ' : jM} (h : cOff PI PL μ μ') {gl : jG} {pl : Nat → Nat → Option Nat} {G : jG} {t : Nat} (ht : tO gl pl G μ t) : tO gl pl G μ' t := tO_of h.1 ht
theorem cOff_wI {PI PL : Nat → Prop} {μ : jM} {c i : Nat} {x : Int32} (h : PI c) : cOff PI PL μ (wI μ c i x) := ⟨rfl, fun a ha => wI_ne (fun z => ha (z ▸ h)), fun _ _ => rfl⟩
theorem cOff_sI {PI PL : Nat → Prop} {μ : jM} {c : Nat} {f : Nat → Int32} (h : PI c) : cOff PI PL μ (sI μ c f) := ⟨rfl, fun a ha => sI_ne (fun z => ha (z ▸ h)), fun _ _ => rfl⟩
theorem cOff_wL {PI PL : Nat → Prop} {μ : jM} {c i : Nat} {x : Int64} (h : PL c) : cOff PI PL μ (wL μ c i x) := ⟨rfl, fun _ _ => rfl, fun a ha => wL_ne (fun z => ha (z ▸ h))⟩
/-- the cells that a LAW's saying writes -/
def scI (t : Nat) (c : Nat) : Prop := c = 15 ∨ c = 16 ∨ c = t + 11 ∨ c = t + 15 ∨ c = t + 19
def scL (t : Nat) (c : Nat) : Prop := c = t + 10 ∨ c = t + 14 ∨ c = t + 18
theorem lw_cases {t q : Nat} (hq : q < 3) : lw t q = t + 9 ∨ lw t q = t + 13 ∨ lw t q = t + 17 := by unfold lw; omega
theorem txC_off {PI PL : Nat → Prop} {μ μ' : jM} (h : cOff PI PL μ μ') {t : Nat} {T : sT} {Lw : Nat → sLaw} (hx : txC μ t T Lw) (hi : ∀ c, t ≤ c → c ≤ t + 20 → PI c → c = t + 11 ∨ c = t + 15 ∨ c = t + 19) (hl : ∀ c, t ≤ c → c ≤ t + 20 → PL c → c = t + 10 ∨ c = t + 14 ∨ c = t + 18) : txC μ' t T Lw := by
  have hc : ∀ c, t ≤ c → c ≤ t + 20 → c ≠ t + 11 → c ≠ t + 15 → c ≠ t + 19 → μ'.1 c = μ.1 c := fun c h1 h2 h3 h4 h5 => h.2.1 c (fun z => by have := hi c h1 h2 z; omega)
  obtain ⟨g1, g2, g3, g4, g5, g6⟩ := hx
  refine ⟨g1, ?_, ?_, ?_, fun q hq => ?_, g6⟩
  · rw [hc t (by omega) (by omega) (by omega) (by omega) (by omega)]; exact g2
  · rw [hc t (by omega) (by omega) (by omega) (by omega) (by omega), hc (t + 1) (by omega) (by omega) (by omega) (by omega) (by omega), hc (t + 2) (by omega) (by omega) (by omega) (by omega) (by omega), hc (t + 3) (by omega) (by omega) (by omega) (by omega) (by omega)]; exact g3
  · rw [hc (t + 4) (by omega) (by omega) (by omega) (by omega) (by omega), hc (t + 5) (by omega) (by omega) (by omega) (by omega) (by omega), hc (t + 6) (by omega) (by omega) (by omega) (by omega) (by omega), hc (t + 7) (by omega) (by omega) (by omega) (by omega) (by omega), hc (t + 8) (by omega) (by omega) (by omega) (by omega) (by omega)]; exact g4
  · obtain ⟨k1, k2, k3⟩ := g5 q hq
    have hw := lw_cases (t := t) hq
    refine ⟨?_, ?_, k3⟩
    · unfold lwC at k1 ⊢
      rw [hc (lw t q) (by omega) (by omega) (by omega) (by omega) (by omega), hc (lw t q + 3) (by omega) (by omega) (by omega) (by omega) (by omega)]; exact k1
    · rw [h.2.2 (lw t q) (fun z => by have := hl _ (by omega) (by omega) z; omega)]; exact k2
/-- what is kept stays so while the LAWS' rows do -/
theorem kcI_off {PI PL : Nat → Prop} {μ μ' : jM} (h : cOff PI PL μ μ') {t : Nat} {T : sT} {Lw : Nat → sLaw} (hk : kcI μ t T Lw) (hi : ∀ c, PI c → c ≠ t + 11 ∧ c ≠ t + 15 ∧ c ≠ t + 19) (hl : ∀ c, PL c → c ≠ t + 10 ∧ c ≠ t + 14 ∧ c ≠ t + 18) : kcI μ' t T Lw := by
  intro q hq i hi84
  have hw := lw_cases (t := t) hq
  rw [h.2.2 (lw t q + 1) (fun z => by have := hl _ z; omega), h.2.1 (lw t q + 2) (fun z => by have := hi _ z; omega)]
  exact hk q hq i hi84
section SaidC
variable {l : Launch} {G : jG}
theorem tO_law {μ : jM} {t q : Nat} (ht : tO gTold pTold G μ t) (hq : q < 3) : tO gLaw pLaw G μ (lw t q) := by
  have h3 : q = 0 ∨ q = 1 ∨ q = 2 := by omega
  refine ⟨fun x sh hx => ?_, fun a f x hx => ?_⟩
  · have hx4 : x < 4 := (List.getElem?_eq_some_iff.mp hx).1
    have hx' : x = 0 ∨ x = 1 ∨ x = 2 ∨ x = 3 := by omega
    rcases h3 with rfl | rfl | rfl <;> rcases hx' with rfl | rfl | rfl | rfl <;> (cases hx; first | exact ht.1 9 _ rfl | exact ht.1 10 _ rfl | exact ht.1 11 _ rfl | exact ht.1 12 _ rfl | exact ht.1 13 _ rfl | exact ht.1 14 _ rfl | exact ht.1 15 _ rfl | exact ht.1 16 _ rfl | exact ht.1 17 _ rfl | exact ht.1 18 _ rfl | exact ht.1 19 _ rfl | exact ht.1 20 _ rfl)
  · unfold pLaw at hx
    split at hx
    · split at hx
      · cases hx
        rcases h3 with rfl | rfl | rfl
        · exact ht.2 9 1 10 rfl
        · exact ht.2 13 1 14 rfl
        · exact ht.2 17 1 18 rfl
      · cases hx
        rcases h3 with rfl | rfl | rfl
        · exact ht.2 9 2 11 rfl
        · exact ht.2 13 2 15 rfl
        · exact ht.2 17 2 19 rfl
      · cases hx
        rcases h3 with rfl | rfl | rfl
        · exact ht.2 9 4 12 rfl
        · exact ht.2 13 4 16 rfl
        · exact ht.2 17 4 20 rfl
      · cases hx
    · cases hx
end SaidC
