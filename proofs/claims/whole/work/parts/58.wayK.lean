/-! A WAY STAYS: by prices that are alike; and if only ROADS off it get dearer -/
theorem isD_congr {T : sT} {pr pr' : Nat → Nat} {goal : Nat} {d : Nat → Nat} (h : ∀ k, k < T 0 1 → pr k = pr' k) (hd : isD T pr goal d) : isD T pr' goal d := by
  refine ⟨hd.1, hd.2.1, fun k hk p o ho => ?_, fun p h1 h2 => ?_⟩
  · rw [← h k hk]; exact hd.2.2.1 k hk p o ho
  · obtain ⟨k, hk, o, h3, h4⟩ := hd.2.2.2 p h1 h2
    exact ⟨k, hk, o, h3, by rw [← h k hk]; exact h4⟩
theorem sD_congr {T : sT} {pr pr' : Nat → Nat} {goal : Nat} (h : ∀ k, k < T 0 1 → pr k = pr' k) : sD T pr goal = sD T pr' goal := by
  unfold sD
  congr 1
  funext d
  exact propext ⟨isD_congr h, isD_congr (fun k hk => (h k hk).symm)⟩
theorem fkF_congr {P Q : Nat → Bool} : ∀ n, (∀ k, k < n → P k = Q k) → fkF P n = fkF Q n := by
  intro n
  induction n with
  | zero => intro _; rfl
  | succ n ih => intro h; unfold fkF; rw [ih (fun k hk => h k (by omega)), h n (by omega)]
theorem tgtB_congr {T : sT} {pr pr' d : Nat → Nat} {p k : Nat} (h : pr k = pr' k) : tgtB T pr d p k = tgtB T pr' d p k := by
  unfold tgtB; rw [h]
theorem sWy_congr {T : sT} {pr pr' d : Nat → Nat} {goal : Nat} (h : ∀ k, k < T 0 1 → pr k = pr' k) : ∀ n p, sWy T pr d goal n p = sWy T pr' d goal n p := by
  intro n
  induction n with
  | zero => intro p; rfl
  | succ n ih =>
    intro p
    unfold sWy
    rw [fkF_congr (T 0 1) (fun k hk => tgtB_congr (T := T) (d := d) (p := p) (h k hk)), ih]
theorem sD_mono {T : sT} {Lw : Nat → sLaw} (hv : vT T Lw) {pr pr' : Nat → Nat} {goal : Nat} (hp : ∀ k, k < T 0 1 → 1 ≤ pr k) (hle : ∀ k, k < T 0 1 → pr k ≤ pr' k) (p : Nat) : sD T pr goal p ≤ sD T pr' goal p := by
  have hd := sD_is hv (goal := goal) hp
  have hp' : ∀ k, k < T 0 1 → 1 ≤ pr' k := fun k hk => Nat.le_trans (hp k hk) (hle k hk)
  have hd' := sD_is hv (goal := goal) hp'
  exact feas_le hd' hp' hd.1 hd.2.1 (fun k hk p o ho => Nat.le_trans (hd.2.2.1 k hk p o ho) (Nat.add_le_add_left (hle k hk) _)) p
theorem way_keep {T : sT} {Lw : Nat → sLaw} (hv : vT T Lw) {pr pr' : Nat → Nat} {goal : Nat} (hp : ∀ k, k < T 0 1 → 1 ≤ pr k) (hle : ∀ k, k < T 0 1 → pr k ≤ pr' k) : ∀ n p, sD T pr goal p < INF → rk (sD T pr goal) p < n → (∀ k ∈ sWy T pr (sD T pr goal) goal n p, pr' k = pr k) → sD T pr' goal p = sD T pr goal p ∧ sWy T pr' (sD T pr' goal) goal n p = sWy T pr (sD T pr goal) goal n p := by
  have hd := sD_is hv (goal := goal) hp
  have hp' : ∀ k, k < T 0 1 → 1 ≤ pr' k := fun k hk => Nat.le_trans (hp k hk) (hle k hk)
  have hd' := sD_is hv (goal := goal) hp'
  have hmono := sD_mono hv (goal := goal) hp hle
  generalize sD T pr goal = d at hd hmono ⊢
  generalize sD T pr' goal = d' at hd' hmono ⊢
  intro n
  induction n with
  | zero => intro p _ h; omega
  | succ n ih =>
    intro p hI hrk hW
    by_cases hg : p = goal
    · subst hg
      refine ⟨by rw [hd.1, hd'.1], ?_⟩
      unfold sWy; rw [if_pos rfl, if_pos rfl]
    · obtain ⟨k, o, e1, hk, ho, h3, h4, ho8, hp8, hno, hrk2⟩ := way_next hv hd hp hg hI
      have eW : sWy T pr d goal (n + 1) p = k :: sWy T pr d goal n o := by
        conv => lhs; unfold sWy
        rw [if_neg hg, e1, ho]; rfl
      rw [eW] at hW ⊢
      obtain ⟨i1, i2⟩ := ih o (by omega) (by omega) (fun j hj => hW j (List.mem_cons_of_mem _ hj))
      have hpk := hW k List.mem_cons_self
      have h5 := hd'.2.2.1 k hk p o ho
      have h6 := hmono p
      have hdp : d' p = d p := by omega
      refine ⟨hdp, ?_⟩
      have e2 : fkF (tgtB T pr' d' p) (T 0 1) = k := by
        refine fkF_of _ k hk (by simp [tgtB, ho]; omega) (fun j hj hz => ?_)
        refine hno j hj ?_
        unfold tgtB at hz ⊢
        cases hoj : thr T j p with
        | none => rw [hoj] at hz; cases hz
        | some oj =>
          rw [hoj] at hz
          have hz' : d' oj + pr' j = d' p := of_decide_eq_true hz
          have h7 := hd.2.2.1 j (by omega) p oj hoj
          have h8 := hmono oj
          have h9 := hle j (by omega)
          exact decide_eq_true (by omega)
      conv => lhs; unfold sWy
      rw [if_neg hg, e2, ho]
      show k :: sWy T pr' d' goal n o = _
      rw [i2]
theorem wyC_congr {μ : jM} {y : Nat} {T : sT} {pr pr' : Nat → Nat} {goal home : Nat} (h : ∀ k, k < T 0 1 → pr k = pr' k) (hw : wyC μ y T pr goal home) : wyC μ y T pr' goal home := by
  unfold wyC at hw ⊢
  rw [sD_congr h] at hw
  rw [sWy_congr h] at hw
  exact hw
/-- dearer, off the WAY -/
theorem wyC_dearer {μ : jM} {y : Nat} {T : sT} {Lw : Nat → sLaw} (hv : vT T Lw) {pr pr' : Nat → Nat} {goal home : Nat} (hp : ∀ k, k < T 0 1 → 1 ≤ pr k) (hle : ∀ k, k < T 0 1 → pr k ≤ pr' k) (hoff : ∀ k, k < T 0 1 → bt (μ.1 y 7) k = true → pr' k = pr k) (hh : home < 8) (hw : wyC μ y T pr goal home) : wyC μ y T pr' goal home := by
  obtain ⟨h6, hw⟩ := hw
  rcases hw with ⟨hI, h5, h3, h7⟩ | ⟨hI, h5, h7⟩
  · have hin := sWy_in hv (sD_is hv (goal := goal) hp) hp 8 home hI
    have h12 := hv.1.2.1
    obtain ⟨e1, e2⟩ := way_keep hv hp hle 8 home hI (by have := rk_7 (d := sD T pr goal) hh; omega) (fun k hk => by
      refine hoff k (hin k hk) ?_
      rw [h7, b_bitsW _ _ _ (fun j hj => by have := hin j hj; omega) (by have := hin k hk; omega)]
      simp [hk])
    unfold wyC
    rw [e1, e2]
    exact ⟨h6, Or.inl ⟨hI, h5, h3, h7⟩⟩
  · have := sD_mono hv (goal := goal) hp hle home
    have hp' : ∀ k, k < T 0 1 → 1 ≤ pr' k := fun k hk => Nat.le_trans (hp k hk) (hle k hk)
    have h8 := (sD_is hv (goal := goal) hp').2.1 home
    have h9 := (sD_is hv (goal := goal) hp).2.1 home
    have e : sD T pr' goal home = sD T pr goal home := by omega
    unfold wyC
    rw [e]
    exact ⟨h6, Or.inr ⟨hI, h5, h7⟩⟩
/-- what a Way keeps is so, if it is known -/
def wyK (μ : jM) (y : Nat) (T : sT) (a : Nat) : Prop := μ.1 y 0 = 0 ∨ ∃ pr, prOK T pr ∧ (∀ k, k < T 0 1 → μ.1 (y + 1) k = nI (pr k)) ∧ wyC μ y T pr (T 6 a) (T 5 a)
theorem wyC_mem {μ μ' : jM} {y : Nat} {T : sT} {pr : Nat → Nat} {goal home : Nat} (h3 : μ'.1 (y + 3) = μ.1 (y + 3)) (h5 : μ'.1 y 5 = μ.1 y 5) (h6 : μ'.1 y 6 = μ.1 y 6) (h7 : μ'.1 y 7 = μ.1 y 7) (hw : wyC μ y T pr goal home) : wyC μ' y T pr goal home := by
  unfold wyC at hw ⊢
  rw [h3, h5, h6, h7]; exact hw
theorem wyK_mem {μ μ' : jM} {y a : Nat} {T : sT} (h1 : μ'.1 (y + 1) = μ.1 (y + 1)) (h3 : μ'.1 (y + 3) = μ.1 (y + 3)) (h0 : μ'.1 y 0 = μ.1 y 0) (h5 : μ'.1 y 5 = μ.1 y 5) (h6 : μ'.1 y 6 = μ.1 y 6) (h7 : μ'.1 y 7 = μ.1 y 7) (hw : wyK μ y T a) : wyK μ' y T a := by
  rcases hw with h | ⟨pr, h, hc, hw⟩
  · exact Or.inl (by rw [h0]; exact h)
  · exact Or.inr ⟨pr, h, by rw [h1]; exact hc, wyC_mem h3 h5 h6 h7 hw⟩
section SetPrice
variable {l : Launch} {G : jG}
theorem c_X9_setPrice (hG : gGG G) {μ : jM} (hP : gPP μ) {y a k p : Nat} {T : sT} {Lw : Nat → sLaw} (hv : vT T Lw) (hy : tO gWay pWay G μ y) (ha : a < T 0 2) (hk : k < T 0 1) (hp : 1 ≤ p ∧ (p ≤ 207 ∨ p = INF)) (hK : wyK μ y T a) :
    jC0 l mX9_setPrice 0 G [.ref y, .int (nI k), .int (nI p)] μ (pV fun μ' => cOff (fun c => c = y ∨ c = y + 1) (fun _ => False) μ μ' ∧ μ'.1 (y + 1) = upd (μ.1 (y + 1)) k (nI p) ∧ (∀ j, j ≠ 0 → μ'.1 y j = μ.1 y j) ∧ wyK μ' y T a) := by
  refine jC0.of' (ls := [.ref y, .int (nI k), .int (nI p), .null]) rfl rfl rfl (fun _ _ => Nat.le_of_ble_eq_true rfl) ?_
  have h12 := hv.1.2.1
  have h00 := hv.1.1
  have hpl : p ≤ 1000000 := by have := hp.2; simp only [INF] at this; omega
  have ck : (nI k).toNatClampNeg = k := nI_clamp (by omega)
  have ny : y ≠ y + 1 := by omega
  have off1 : cOff (fun c => c = y ∨ c = y + 1) (fun _ => False) μ (wI μ (y + 1) k (nI p)) := cOff_wI (Or.inr rfl)
  have off2 : cOff (fun c => c = y ∨ c = y + 1) (fun _ => False) μ (wI (wI μ y 0 0) (y + 1) k (nI p)) := (cOff_wI (Or.inl rfl)).trans (cOff_wI (Or.inr rfl))
  have known0 : (wI (wI μ y 0 0) (y + 1) k (nI p)).1 y 0 = 0 := by rw [wI_ne ny, wI_at]
  have row2 : (wI (wI μ y 0 0) (y + 1) k (nI p)).1 (y + 1) = upd (μ.1 (y + 1)) k (nI p) := by rw [wI_eq, wI_ne ny.symm]
  have fl2 : ∀ j, j ≠ 0 → (wI (wI μ y 0 0) (y + 1) k (nI p)).1 y j = μ.1 y j := fun j hj => by rw [wI_ne ny, wI_off' hj]
  have fl1 : ∀ j, (wI μ (y + 1) k (nI p)).1 y j = μ.1 y j := fun j => by rw [wI_ne ny]
  have a3 : (wI μ (y + 1) k (nI p)).1 (y + 3) = μ.1 (y + 3) := wI_ne (by omega)
  refine b_X9_setPrice_0 hG hP hy (vp_in_nI (by omega) (by decide)) (fun _ => ?_) (fun h1 h2 => ?_) (fun h1 h2 h3 => ?_) (fun _ _ _ => ?_)
  · rw [ck]; exact ⟨off2, row2, fl2, Or.inl known0⟩
  · rw [ck] at h1 h2 ⊢
    refine ⟨off1, wI_eq, fun j _ => fl1 j, ?_⟩
    rcases hK with h | ⟨pr, hpr, hc, hw⟩
    · exact Or.inl (by rw [fl1]; exact h)
    · refine Or.inr ⟨pr, hpr, fun j hj => ?_, wyC_mem a3 (fl1 5) (fl1 6) (fl1 7) hw⟩
      rw [wI_eq]
      by_cases hjk : j = k
      · subst hjk
        rw [upd_at]
        have e : nI p = μ.1 (y + 1) j := by apply i32_ext; rw [i32_lt] at h1; rw [i32_le] at h2; omega
        rw [e]; exact hc j hj
      · rw [upd_ne hjk]; exact hc j hj
  · rw [ck] at h1 h2 ⊢
    have hbit := (sh1_0 (by omega) (μ.1 y 7)).mp h3
    refine ⟨off1, wI_eq, fun j _ => fl1 j, ?_⟩
    rcases hK with h | ⟨pr, hpr, hc, hw⟩
    · exact Or.inl (by rw [fl1]; exact h)
    · rw [hc k hk, nI_leI (by omega) (by have := (hpr k hk).2; simp only [INF] at this; omega)] at h2
      refine Or.inr ⟨upN pr k p, fun j hj => ?_, fun j hj => ?_, ?_⟩
      · unfold upN; split
        · exact hp
        · exact hpr j hj
      · rw [wI_eq]; unfold upN
        by_cases hjk : j = k
        · rw [hjk, upd_at, if_pos rfl]
        · rw [upd_ne hjk, if_neg hjk]; exact hc j hj
      · refine wyC_mem a3 (fl1 5) (fl1 6) (fl1 7) (wyC_dearer hv (fun j hj => (hpr j hj).1) (fun j hj => ?_) (fun j hj hb => ?_) (by have := (hv.2.2.1 a ha).1; omega) hw)
        · unfold upN; split
          · next e => rw [e]; omega
          · exact Nat.le_refl _
        · unfold upN; rw [if_neg (fun e => by rw [e, hbit] at hb; cases hb)]
  · rw [ck]; exact ⟨off2, row2, fl2, Or.inl known0⟩
end SetPrice
