/-! THE SMALL MACHINE: cells by number, memory as functions; a judgement J over the kit's W, a rule for each instruction, a contract for each method -/
abbrev jM : Type := (Nat → Nat → Int32) × (Nat → Nat → Int64) × (Nat → Nat → Option Nat)
abbrev jG : Type := List (Nat × Nat)
def jcl : List vw_C := [(RX0, TX0, 10), (RX1, TX1, 9), (RX2, TX2, 6), (RX3, TX3, 5), (RX4, TX4, 13), (RX5, TX5, 1), (RX6, TX6, 2), (RX7, TX7, 4), (RX8, TX8, 20), (RX9, TX9, 9), (RX10, TX10, 11), (RX11, TX11, 9), (RX12, TX12, 80)]
def jty (ci : Nat) : Nat → FieldType := match ci with
  | 0 => tyX0 | 1 => tyX1 | 2 => tyX2 | 3 => tyX3 | 4 => tyX4 | 5 => tyX5 | 6 => tyX6 | 7 => tyX7 | 8 => tyX8 | 9 => tyX9 | 10 => tyX10 | 11 => tyX11 | _ => tyX12
theorem jty_ok {ci : Nat} {q : vw_C} (h : jcl[ci]? = some q) : ∀ k, k < q.2.2 → parseFieldDescriptor (q.2.1 k).2.2.1 = some (jty ci k) := by
  match ci, h with
  | 0, h => cases h; exact tyX0_ok
  | 1, h => cases h; exact tyX1_ok
  | 2, h => cases h; exact tyX2_ok
  | 3, h => cases h; exact tyX3_ok
  | 4, h => cases h; exact tyX4_ok
  | 5, h => cases h; exact tyX5_ok
  | 6, h => cases h; exact tyX6_ok
  | 7, h => cases h; exact tyX7_ok
  | 8, h => cases h; exact tyX8_ok
  | 9, h => cases h; exact tyX9_ok
  | 10, h => cases h; exact tyX10_ok
  | 11, h => cases h; exact tyX11_ok
  | 12, h => cases h; exact tyX12_ok
  | k + 13, h => simp [jcl] at h
theorem jnm_ok {ci : Nat} {q : vw_C} (h : jcl[ci]? = some q) : ∀ a, a < q.2.2 → ∀ b, b < q.2.2 → a ≠ b → (q.2.1 a).2.1 ≠ (q.2.1 b).2.1 := by
  match ci, h with
  | 0, h => cases h; exact nmX0
  | 1, h => cases h; exact nmX1
  | 2, h => cases h; exact nmX2
  | 3, h => cases h; exact nmX3
  | 4, h => cases h; exact nmX4
  | 5, h => cases h; exact nmX5
  | 6, h => cases h; exact nmX6
  | 7, h => cases h; exact nmX7
  | 8, h => cases h; exact nmX8
  | 9, h => cases h; exact nmX9
  | 10, h => cases h; exact nmX10
  | 11, h => cases h; exact nmX11
  | 12, h => cases h; exact nmX12
  | k + 13, h => simp [jcl] at h
def jtbl : List Cond := lw_tbl.filter goodWord
theorem jtbl_of {w : Cond} (h : w ∈ lw_tbl) (hg : goodWord w = true) : w ∈ jtbl := List.mem_filter.mpr ⟨h, hg⟩
theorem jtbl_good {w : Cond} (h : w ∈ jtbl) : (w.onTables && w.keeps) = true ∨ ∃ ty, w = .arrayClass ty := good_of_word (List.mem_filter.mp h).2
/-- the words that aren't steady: links to private constructors, the array class of Ways -/
def jnest : List Cond := lw_tbl.filter (fun w => match w with | .methodLinkNest .. => true | _ => false)
def jNW (U : State) : Prop := (∀ w ∈ jnest, va_Nw w U) ∧ va_AO RX9 U
theorem jNW.warm {s U : State} (hW : s.WarmedH U.vm) (h : jNW s) : jNW U := by
  refine ⟨fun w hw => ?_, va_AO.moved hW.alike h.2⟩
  have h1 := (List.mem_filter.mp hw).2
  have h2 := h.1 w hw
  cases w with
  | methodLinkNest a i x h => exact va_Nw.warmM hW h2
  | _ => simp at h1
theorem tq_1 : ∀ w ∈ tables_1_1, w ∈ lw_tbl := fun w h => List.mem_append_right _ (List.mem_append_left _ h)
theorem tq_2 : ∀ w ∈ tables_1_2, w ∈ lw_tbl := fun w h => List.mem_append_right _ (List.mem_append_right _ (List.mem_append_left _ h))
theorem tq_3 : ∀ w ∈ tables_1_3, w ∈ lw_tbl := fun w h => List.mem_append_right _ (List.mem_append_right _ (List.mem_append_right _ (List.mem_append_left _ h)))
theorem tq_4 : ∀ w ∈ tables_1_4, w ∈ lw_tbl := fun w h => List.mem_append_right _ (List.mem_append_right _ (List.mem_append_right _ (List.mem_append_right _ (List.mem_append_left _ h))))
theorem tq_5 : ∀ w ∈ tables_1_5, w ∈ lw_tbl := fun w h => List.mem_append_right _ (List.mem_append_right _ (List.mem_append_right _ (List.mem_append_right _ (List.mem_append_right _ (List.mem_append_left _ h)))))
theorem tq_6 : ∀ w ∈ tables_1_6, w ∈ lw_tbl := fun w h => List.mem_append_right _ (List.mem_append_right _ (List.mem_append_right _ (List.mem_append_right _ (List.mem_append_right _ (List.mem_append_right _ (List.mem_append_left _ h))))))
theorem tq_7 : ∀ w ∈ tables_1_7, w ∈ lw_tbl := fun w h => List.mem_append_right _ (List.mem_append_right _ (List.mem_append_right _ (List.mem_append_right _ (List.mem_append_right _ (List.mem_append_right _ (List.mem_append_right _ (List.mem_append_left _ h)))))))
theorem tq_8 : ∀ w ∈ tables_1_8, w ∈ lw_tbl := fun w h => List.mem_append_right _ (List.mem_append_right _ (List.mem_append_right _ (List.mem_append_right _ (List.mem_append_right _ (List.mem_append_right _ (List.mem_append_right _ (List.mem_append_right _ h)))))))
set_option maxRecDepth 100000 in
theorem ly_0_0 : u_lay RX0 TX0 0 ∈ jtbl := jtbl_of (tq_2 _ (List.mem_of_getElem? (i := 121) rfl)) rfl
set_option maxRecDepth 100000 in
theorem ly_0_1 : u_lay RX0 TX0 1 ∈ jtbl := jtbl_of (tq_2 _ (List.mem_of_getElem? (i := 123) rfl)) rfl
set_option maxRecDepth 100000 in
theorem ly_0_2 : u_lay RX0 TX0 2 ∈ jtbl := jtbl_of (tq_2 _ (List.mem_of_getElem? (i := 125) rfl)) rfl
set_option maxRecDepth 100000 in
theorem ly_0_3 : u_lay RX0 TX0 3 ∈ jtbl := jtbl_of (tq_2 _ (List.mem_of_getElem? (i := 127) rfl)) rfl
set_option maxRecDepth 100000 in
theorem ly_0_4 : u_lay RX0 TX0 4 ∈ jtbl := jtbl_of (tq_2 _ (List.mem_of_getElem? (i := 129) rfl)) rfl
set_option maxRecDepth 100000 in
theorem ly_0_5 : u_lay RX0 TX0 5 ∈ jtbl := jtbl_of (tq_2 _ (List.mem_of_getElem? (i := 131) rfl)) rfl
set_option maxRecDepth 100000 in
theorem ly_0_6 : u_lay RX0 TX0 6 ∈ jtbl := jtbl_of (tq_2 _ (List.mem_of_getElem? (i := 133) rfl)) rfl
set_option maxRecDepth 100000 in
theorem ly_0_7 : u_lay RX0 TX0 7 ∈ jtbl := jtbl_of (tq_2 _ (List.mem_of_getElem? (i := 135) rfl)) rfl
set_option maxRecDepth 100000 in
theorem ly_0_8 : u_lay RX0 TX0 8 ∈ jtbl := jtbl_of (tq_2 _ (List.mem_of_getElem? (i := 137) rfl)) rfl
set_option maxRecDepth 100000 in
theorem ly_0_9 : u_lay RX0 TX0 9 ∈ jtbl := jtbl_of (tq_2 _ (List.mem_of_getElem? (i := 139) rfl)) rfl
theorem jin_0 : ∀ w ∈ u_ws RX0 TX0 10, w ∈ jtbl := by
  intro w hw
  obtain ⟨k, hk, rfl⟩ := List.mem_map.mp hw
  have hk := List.mem_range.mp hk
  match k, hk with
  | 0, _ => exact ly_0_0
  | 1, _ => exact ly_0_1
  | 2, _ => exact ly_0_2
  | 3, _ => exact ly_0_3
  | 4, _ => exact ly_0_4
  | 5, _ => exact ly_0_5
  | 6, _ => exact ly_0_6
  | 7, _ => exact ly_0_7
  | 8, _ => exact ly_0_8
  | 9, _ => exact ly_0_9
  | k + 10, h => omega
set_option maxRecDepth 100000 in
theorem ly_1_0 : u_lay RX1 TX1 0 ∈ jtbl := jtbl_of (tq_2 _ (List.mem_of_getElem? (i := 83) rfl)) rfl
set_option maxRecDepth 100000 in
theorem ly_1_1 : u_lay RX1 TX1 1 ∈ jtbl := jtbl_of (tq_2 _ (List.mem_of_getElem? (i := 85) rfl)) rfl
set_option maxRecDepth 100000 in
theorem ly_1_2 : u_lay RX1 TX1 2 ∈ jtbl := jtbl_of (tq_2 _ (List.mem_of_getElem? (i := 87) rfl)) rfl
set_option maxRecDepth 100000 in
theorem ly_1_3 : u_lay RX1 TX1 3 ∈ jtbl := jtbl_of (tq_2 _ (List.mem_of_getElem? (i := 89) rfl)) rfl
set_option maxRecDepth 100000 in
theorem ly_1_4 : u_lay RX1 TX1 4 ∈ jtbl := jtbl_of (tq_2 _ (List.mem_of_getElem? (i := 91) rfl)) rfl
set_option maxRecDepth 100000 in
theorem ly_1_5 : u_lay RX1 TX1 5 ∈ jtbl := jtbl_of (tq_2 _ (List.mem_of_getElem? (i := 93) rfl)) rfl
set_option maxRecDepth 100000 in
theorem ly_1_6 : u_lay RX1 TX1 6 ∈ jtbl := jtbl_of (tq_2 _ (List.mem_of_getElem? (i := 95) rfl)) rfl
set_option maxRecDepth 100000 in
theorem ly_1_7 : u_lay RX1 TX1 7 ∈ jtbl := jtbl_of (tq_2 _ (List.mem_of_getElem? (i := 97) rfl)) rfl
set_option maxRecDepth 100000 in
theorem ly_1_8 : u_lay RX1 TX1 8 ∈ jtbl := jtbl_of (tq_2 _ (List.mem_of_getElem? (i := 99) rfl)) rfl
theorem jin_1 : ∀ w ∈ u_ws RX1 TX1 9, w ∈ jtbl := by
  intro w hw
  obtain ⟨k, hk, rfl⟩ := List.mem_map.mp hw
  have hk := List.mem_range.mp hk
  match k, hk with
  | 0, _ => exact ly_1_0
  | 1, _ => exact ly_1_1
  | 2, _ => exact ly_1_2
  | 3, _ => exact ly_1_3
  | 4, _ => exact ly_1_4
  | 5, _ => exact ly_1_5
  | 6, _ => exact ly_1_6
  | 7, _ => exact ly_1_7
  | 8, _ => exact ly_1_8
  | k + 9, h => omega
set_option maxRecDepth 100000 in
theorem ly_2_0 : u_lay RX2 TX2 0 ∈ jtbl := jtbl_of (tq_2 _ (List.mem_of_getElem? (i := 163) rfl)) rfl
set_option maxRecDepth 100000 in
theorem ly_2_1 : u_lay RX2 TX2 1 ∈ jtbl := jtbl_of (tq_2 _ (List.mem_of_getElem? (i := 165) rfl)) rfl
set_option maxRecDepth 100000 in
theorem ly_2_2 : u_lay RX2 TX2 2 ∈ jtbl := jtbl_of (tq_2 _ (List.mem_of_getElem? (i := 167) rfl)) rfl
set_option maxRecDepth 100000 in
theorem ly_2_3 : u_lay RX2 TX2 3 ∈ jtbl := jtbl_of (tq_2 _ (List.mem_of_getElem? (i := 169) rfl)) rfl
set_option maxRecDepth 100000 in
theorem ly_2_4 : u_lay RX2 TX2 4 ∈ jtbl := jtbl_of (tq_2 _ (List.mem_of_getElem? (i := 171) rfl)) rfl
set_option maxRecDepth 100000 in
theorem ly_2_5 : u_lay RX2 TX2 5 ∈ jtbl := jtbl_of (tq_2 _ (List.mem_of_getElem? (i := 173) rfl)) rfl
theorem jin_2 : ∀ w ∈ u_ws RX2 TX2 6, w ∈ jtbl := by
  intro w hw
  obtain ⟨k, hk, rfl⟩ := List.mem_map.mp hw
  have hk := List.mem_range.mp hk
  match k, hk with
  | 0, _ => exact ly_2_0
  | 1, _ => exact ly_2_1
  | 2, _ => exact ly_2_2
  | 3, _ => exact ly_2_3
  | 4, _ => exact ly_2_4
  | 5, _ => exact ly_2_5
  | k + 6, h => omega
set_option maxRecDepth 100000 in
theorem ly_3_0 : u_lay RX3 TX3 0 ∈ jtbl := jtbl_of (tq_2 _ (List.mem_of_getElem? (i := 53) rfl)) rfl
set_option maxRecDepth 100000 in
theorem ly_3_1 : u_lay RX3 TX3 1 ∈ jtbl := jtbl_of (tq_2 _ (List.mem_of_getElem? (i := 55) rfl)) rfl
set_option maxRecDepth 100000 in
theorem ly_3_2 : u_lay RX3 TX3 2 ∈ jtbl := jtbl_of (tq_2 _ (List.mem_of_getElem? (i := 57) rfl)) rfl
set_option maxRecDepth 100000 in
theorem ly_3_3 : u_lay RX3 TX3 3 ∈ jtbl := jtbl_of (tq_2 _ (List.mem_of_getElem? (i := 59) rfl)) rfl
set_option maxRecDepth 100000 in
theorem ly_3_4 : u_lay RX3 TX3 4 ∈ jtbl := jtbl_of (tq_2 _ (List.mem_of_getElem? (i := 61) rfl)) rfl
theorem jin_3 : ∀ w ∈ u_ws RX3 TX3 5, w ∈ jtbl := by
  intro w hw
  obtain ⟨k, hk, rfl⟩ := List.mem_map.mp hw
  have hk := List.mem_range.mp hk
  match k, hk with
  | 0, _ => exact ly_3_0
  | 1, _ => exact ly_3_1
  | 2, _ => exact ly_3_2
  | 3, _ => exact ly_3_3
  | 4, _ => exact ly_3_4
  | k + 5, h => omega
set_option maxRecDepth 100000 in
theorem ly_4_0 : u_lay RX4 TX4 0 ∈ jtbl := jtbl_of (tq_1 _ (List.mem_of_getElem? (i := 144) rfl)) rfl
set_option maxRecDepth 100000 in
theorem ly_4_1 : u_lay RX4 TX4 1 ∈ jtbl := jtbl_of (tq_1 _ (List.mem_of_getElem? (i := 146) rfl)) rfl
set_option maxRecDepth 100000 in
theorem ly_4_2 : u_lay RX4 TX4 2 ∈ jtbl := jtbl_of (tq_1 _ (List.mem_of_getElem? (i := 148) rfl)) rfl
set_option maxRecDepth 100000 in
theorem ly_4_3 : u_lay RX4 TX4 3 ∈ jtbl := jtbl_of (tq_1 _ (List.mem_of_getElem? (i := 150) rfl)) rfl
set_option maxRecDepth 100000 in
theorem ly_4_4 : u_lay RX4 TX4 4 ∈ jtbl := jtbl_of (tq_1 _ (List.mem_of_getElem? (i := 152) rfl)) rfl
set_option maxRecDepth 100000 in
theorem ly_4_5 : u_lay RX4 TX4 5 ∈ jtbl := jtbl_of (tq_1 _ (List.mem_of_getElem? (i := 154) rfl)) rfl
set_option maxRecDepth 100000 in
theorem ly_4_6 : u_lay RX4 TX4 6 ∈ jtbl := jtbl_of (tq_1 _ (List.mem_of_getElem? (i := 156) rfl)) rfl
set_option maxRecDepth 100000 in
theorem ly_4_7 : u_lay RX4 TX4 7 ∈ jtbl := jtbl_of (tq_1 _ (List.mem_of_getElem? (i := 158) rfl)) rfl
set_option maxRecDepth 100000 in
theorem ly_4_8 : u_lay RX4 TX4 8 ∈ jtbl := jtbl_of (tq_1 _ (List.mem_of_getElem? (i := 160) rfl)) rfl
set_option maxRecDepth 100000 in
theorem ly_4_9 : u_lay RX4 TX4 9 ∈ jtbl := jtbl_of (tq_1 _ (List.mem_of_getElem? (i := 162) rfl)) rfl
set_option maxRecDepth 100000 in
theorem ly_4_10 : u_lay RX4 TX4 10 ∈ jtbl := jtbl_of (tq_1 _ (List.mem_of_getElem? (i := 164) rfl)) rfl
set_option maxRecDepth 100000 in
theorem ly_4_11 : u_lay RX4 TX4 11 ∈ jtbl := jtbl_of (tq_1 _ (List.mem_of_getElem? (i := 166) rfl)) rfl
set_option maxRecDepth 100000 in
theorem ly_4_12 : u_lay RX4 TX4 12 ∈ jtbl := jtbl_of (tq_1 _ (List.mem_of_getElem? (i := 168) rfl)) rfl
theorem jin_4 : ∀ w ∈ u_ws RX4 TX4 13, w ∈ jtbl := by
  intro w hw
  obtain ⟨k, hk, rfl⟩ := List.mem_map.mp hw
  have hk := List.mem_range.mp hk
  match k, hk with
  | 0, _ => exact ly_4_0
  | 1, _ => exact ly_4_1
  | 2, _ => exact ly_4_2
  | 3, _ => exact ly_4_3
  | 4, _ => exact ly_4_4
  | 5, _ => exact ly_4_5
  | 6, _ => exact ly_4_6
  | 7, _ => exact ly_4_7
  | 8, _ => exact ly_4_8
  | 9, _ => exact ly_4_9
  | 10, _ => exact ly_4_10
  | 11, _ => exact ly_4_11
  | 12, _ => exact ly_4_12
  | k + 13, h => omega
set_option maxRecDepth 100000 in
theorem ly_5_0 : u_lay RX5 TX5 0 ∈ jtbl := jtbl_of (tq_2 _ (List.mem_of_getElem? (i := 37) rfl)) rfl
theorem jin_5 : ∀ w ∈ u_ws RX5 TX5 1, w ∈ jtbl := by
  intro w hw
  obtain ⟨k, hk, rfl⟩ := List.mem_map.mp hw
  have hk := List.mem_range.mp hk
  match k, hk with
  | 0, _ => exact ly_5_0
  | k + 1, h => omega
set_option maxRecDepth 100000 in
theorem ly_6_0 : u_lay RX6 TX6 0 ∈ jtbl := jtbl_of (tq_1 _ (List.mem_of_getElem? (i := 41) rfl)) rfl
set_option maxRecDepth 100000 in
theorem ly_6_1 : u_lay RX6 TX6 1 ∈ jtbl := jtbl_of (tq_1 _ (List.mem_of_getElem? (i := 43) rfl)) rfl
theorem jin_6 : ∀ w ∈ u_ws RX6 TX6 2, w ∈ jtbl := by
  intro w hw
  obtain ⟨k, hk, rfl⟩ := List.mem_map.mp hw
  have hk := List.mem_range.mp hk
  match k, hk with
  | 0, _ => exact ly_6_0
  | 1, _ => exact ly_6_1
  | k + 2, h => omega
set_option maxRecDepth 100000 in
theorem ly_7_0 : u_lay RX7 TX7 0 ∈ jtbl := jtbl_of (tq_1 _ (List.mem_of_getElem? (i := 119) rfl)) rfl
set_option maxRecDepth 100000 in
theorem ly_7_1 : u_lay RX7 TX7 1 ∈ jtbl := jtbl_of (tq_1 _ (List.mem_of_getElem? (i := 121) rfl)) rfl
set_option maxRecDepth 100000 in
theorem ly_7_2 : u_lay RX7 TX7 2 ∈ jtbl := jtbl_of (tq_1 _ (List.mem_of_getElem? (i := 123) rfl)) rfl
set_option maxRecDepth 100000 in
theorem ly_7_3 : u_lay RX7 TX7 3 ∈ jtbl := jtbl_of (tq_1 _ (List.mem_of_getElem? (i := 125) rfl)) rfl
theorem jin_7 : ∀ w ∈ u_ws RX7 TX7 4, w ∈ jtbl := by
  intro w hw
  obtain ⟨k, hk, rfl⟩ := List.mem_map.mp hw
  have hk := List.mem_range.mp hk
  match k, hk with
  | 0, _ => exact ly_7_0
  | 1, _ => exact ly_7_1
  | 2, _ => exact ly_7_2
  | 3, _ => exact ly_7_3
  | k + 4, h => omega
set_option maxRecDepth 100000 in
theorem ly_8_0 : u_lay RX8 TX8 0 ∈ jtbl := jtbl_of (tq_3 _ (List.mem_of_getElem? (i := 10) rfl)) rfl
set_option maxRecDepth 100000 in
theorem ly_8_1 : u_lay RX8 TX8 1 ∈ jtbl := jtbl_of (tq_3 _ (List.mem_of_getElem? (i := 12) rfl)) rfl
set_option maxRecDepth 100000 in
theorem ly_8_2 : u_lay RX8 TX8 2 ∈ jtbl := jtbl_of (tq_3 _ (List.mem_of_getElem? (i := 14) rfl)) rfl
set_option maxRecDepth 100000 in
theorem ly_8_3 : u_lay RX8 TX8 3 ∈ jtbl := jtbl_of (tq_3 _ (List.mem_of_getElem? (i := 16) rfl)) rfl
set_option maxRecDepth 100000 in
theorem ly_8_4 : u_lay RX8 TX8 4 ∈ jtbl := jtbl_of (tq_3 _ (List.mem_of_getElem? (i := 18) rfl)) rfl
set_option maxRecDepth 100000 in
theorem ly_8_5 : u_lay RX8 TX8 5 ∈ jtbl := jtbl_of (tq_3 _ (List.mem_of_getElem? (i := 20) rfl)) rfl
set_option maxRecDepth 100000 in
theorem ly_8_6 : u_lay RX8 TX8 6 ∈ jtbl := jtbl_of (tq_3 _ (List.mem_of_getElem? (i := 22) rfl)) rfl
set_option maxRecDepth 100000 in
theorem ly_8_7 : u_lay RX8 TX8 7 ∈ jtbl := jtbl_of (tq_3 _ (List.mem_of_getElem? (i := 24) rfl)) rfl
set_option maxRecDepth 100000 in
theorem ly_8_8 : u_lay RX8 TX8 8 ∈ jtbl := jtbl_of (tq_3 _ (List.mem_of_getElem? (i := 26) rfl)) rfl
set_option maxRecDepth 100000 in
theorem ly_8_9 : u_lay RX8 TX8 9 ∈ jtbl := jtbl_of (tq_3 _ (List.mem_of_getElem? (i := 28) rfl)) rfl
set_option maxRecDepth 100000 in
theorem ly_8_10 : u_lay RX8 TX8 10 ∈ jtbl := jtbl_of (tq_3 _ (List.mem_of_getElem? (i := 30) rfl)) rfl
set_option maxRecDepth 100000 in
theorem ly_8_11 : u_lay RX8 TX8 11 ∈ jtbl := jtbl_of (tq_3 _ (List.mem_of_getElem? (i := 32) rfl)) rfl
set_option maxRecDepth 100000 in
theorem ly_8_12 : u_lay RX8 TX8 12 ∈ jtbl := jtbl_of (tq_3 _ (List.mem_of_getElem? (i := 34) rfl)) rfl
set_option maxRecDepth 100000 in
theorem ly_8_13 : u_lay RX8 TX8 13 ∈ jtbl := jtbl_of (tq_3 _ (List.mem_of_getElem? (i := 36) rfl)) rfl
set_option maxRecDepth 100000 in
theorem ly_8_14 : u_lay RX8 TX8 14 ∈ jtbl := jtbl_of (tq_3 _ (List.mem_of_getElem? (i := 38) rfl)) rfl
set_option maxRecDepth 100000 in
theorem ly_8_15 : u_lay RX8 TX8 15 ∈ jtbl := jtbl_of (tq_3 _ (List.mem_of_getElem? (i := 40) rfl)) rfl
set_option maxRecDepth 100000 in
theorem ly_8_16 : u_lay RX8 TX8 16 ∈ jtbl := jtbl_of (tq_3 _ (List.mem_of_getElem? (i := 42) rfl)) rfl
set_option maxRecDepth 100000 in
theorem ly_8_17 : u_lay RX8 TX8 17 ∈ jtbl := jtbl_of (tq_3 _ (List.mem_of_getElem? (i := 44) rfl)) rfl
set_option maxRecDepth 100000 in
theorem ly_8_18 : u_lay RX8 TX8 18 ∈ jtbl := jtbl_of (tq_3 _ (List.mem_of_getElem? (i := 46) rfl)) rfl
set_option maxRecDepth 100000 in
theorem ly_8_19 : u_lay RX8 TX8 19 ∈ jtbl := jtbl_of (tq_3 _ (List.mem_of_getElem? (i := 48) rfl)) rfl
theorem jin_8 : ∀ w ∈ u_ws RX8 TX8 20, w ∈ jtbl := by
  intro w hw
  obtain ⟨k, hk, rfl⟩ := List.mem_map.mp hw
  have hk := List.mem_range.mp hk
  match k, hk with
  | 0, _ => exact ly_8_0
  | 1, _ => exact ly_8_1
  | 2, _ => exact ly_8_2
  | 3, _ => exact ly_8_3
  | 4, _ => exact ly_8_4
  | 5, _ => exact ly_8_5
  | 6, _ => exact ly_8_6
  | 7, _ => exact ly_8_7
  | 8, _ => exact ly_8_8
  | 9, _ => exact ly_8_9
  | 10, _ => exact ly_8_10
  | 11, _ => exact ly_8_11
  | 12, _ => exact ly_8_12
  | 13, _ => exact ly_8_13
  | 14, _ => exact ly_8_14
  | 15, _ => exact ly_8_15
  | 16, _ => exact ly_8_16
  | 17, _ => exact ly_8_17
  | 18, _ => exact ly_8_18
  | 19, _ => exact ly_8_19
  | k + 20, h => omega
set_option maxRecDepth 100000 in
theorem ly_9_0 : u_lay RX9 TX9 0 ∈ jtbl := jtbl_of (tq_1 _ (List.mem_of_getElem? (i := 203) rfl)) rfl
set_option maxRecDepth 100000 in
theorem ly_9_1 : u_lay RX9 TX9 1 ∈ jtbl := jtbl_of (tq_1 _ (List.mem_of_getElem? (i := 205) rfl)) rfl
set_option maxRecDepth 100000 in
theorem ly_9_2 : u_lay RX9 TX9 2 ∈ jtbl := jtbl_of (tq_1 _ (List.mem_of_getElem? (i := 207) rfl)) rfl
set_option maxRecDepth 100000 in
theorem ly_9_3 : u_lay RX9 TX9 3 ∈ jtbl := jtbl_of (tq_1 _ (List.mem_of_getElem? (i := 209) rfl)) rfl
set_option maxRecDepth 100000 in
theorem ly_9_4 : u_lay RX9 TX9 4 ∈ jtbl := jtbl_of (tq_1 _ (List.mem_of_getElem? (i := 211) rfl)) rfl
set_option maxRecDepth 100000 in
theorem ly_9_5 : u_lay RX9 TX9 5 ∈ jtbl := jtbl_of (tq_1 _ (List.mem_of_getElem? (i := 213) rfl)) rfl
set_option maxRecDepth 100000 in
theorem ly_9_6 : u_lay RX9 TX9 6 ∈ jtbl := jtbl_of (tq_1 _ (List.mem_of_getElem? (i := 215) rfl)) rfl
set_option maxRecDepth 100000 in
theorem ly_9_7 : u_lay RX9 TX9 7 ∈ jtbl := jtbl_of (tq_1 _ (List.mem_of_getElem? (i := 217) rfl)) rfl
set_option maxRecDepth 100000 in
theorem ly_9_8 : u_lay RX9 TX9 8 ∈ jtbl := jtbl_of (tq_1 _ (List.mem_of_getElem? (i := 219) rfl)) rfl
theorem jin_9 : ∀ w ∈ u_ws RX9 TX9 9, w ∈ jtbl := by
  intro w hw
  obtain ⟨k, hk, rfl⟩ := List.mem_map.mp hw
  have hk := List.mem_range.mp hk
  match k, hk with
  | 0, _ => exact ly_9_0
  | 1, _ => exact ly_9_1
  | 2, _ => exact ly_9_2
  | 3, _ => exact ly_9_3
  | 4, _ => exact ly_9_4
  | 5, _ => exact ly_9_5
  | 6, _ => exact ly_9_6
  | 7, _ => exact ly_9_7
  | 8, _ => exact ly_9_8
  | k + 9, h => omega
set_option maxRecDepth 100000 in
theorem ly_10_0 : u_lay RX10 TX10 0 ∈ jtbl := jtbl_of (tq_2 _ (List.mem_of_getElem? (i := 2) rfl)) rfl
set_option maxRecDepth 100000 in
theorem ly_10_1 : u_lay RX10 TX10 1 ∈ jtbl := jtbl_of (tq_2 _ (List.mem_of_getElem? (i := 4) rfl)) rfl
set_option maxRecDepth 100000 in
theorem ly_10_2 : u_lay RX10 TX10 2 ∈ jtbl := jtbl_of (tq_2 _ (List.mem_of_getElem? (i := 6) rfl)) rfl
set_option maxRecDepth 100000 in
theorem ly_10_3 : u_lay RX10 TX10 3 ∈ jtbl := jtbl_of (tq_2 _ (List.mem_of_getElem? (i := 8) rfl)) rfl
set_option maxRecDepth 100000 in
theorem ly_10_4 : u_lay RX10 TX10 4 ∈ jtbl := jtbl_of (tq_2 _ (List.mem_of_getElem? (i := 10) rfl)) rfl
set_option maxRecDepth 100000 in
theorem ly_10_5 : u_lay RX10 TX10 5 ∈ jtbl := jtbl_of (tq_2 _ (List.mem_of_getElem? (i := 12) rfl)) rfl
set_option maxRecDepth 100000 in
theorem ly_10_6 : u_lay RX10 TX10 6 ∈ jtbl := jtbl_of (tq_2 _ (List.mem_of_getElem? (i := 14) rfl)) rfl
set_option maxRecDepth 100000 in
theorem ly_10_7 : u_lay RX10 TX10 7 ∈ jtbl := jtbl_of (tq_2 _ (List.mem_of_getElem? (i := 16) rfl)) rfl
set_option maxRecDepth 100000 in
theorem ly_10_8 : u_lay RX10 TX10 8 ∈ jtbl := jtbl_of (tq_2 _ (List.mem_of_getElem? (i := 18) rfl)) rfl
set_option maxRecDepth 100000 in
theorem ly_10_9 : u_lay RX10 TX10 9 ∈ jtbl := jtbl_of (tq_2 _ (List.mem_of_getElem? (i := 20) rfl)) rfl
set_option maxRecDepth 100000 in
theorem ly_10_10 : u_lay RX10 TX10 10 ∈ jtbl := jtbl_of (tq_2 _ (List.mem_of_getElem? (i := 22) rfl)) rfl
theorem jin_10 : ∀ w ∈ u_ws RX10 TX10 11, w ∈ jtbl := by
  intro w hw
  obtain ⟨k, hk, rfl⟩ := List.mem_map.mp hw
  have hk := List.mem_range.mp hk
  match k, hk with
  | 0, _ => exact ly_10_0
  | 1, _ => exact ly_10_1
  | 2, _ => exact ly_10_2
  | 3, _ => exact ly_10_3
  | 4, _ => exact ly_10_4
  | 5, _ => exact ly_10_5
  | 6, _ => exact ly_10_6
  | 7, _ => exact ly_10_7
  | 8, _ => exact ly_10_8
  | 9, _ => exact ly_10_9
  | 10, _ => exact ly_10_10
  | k + 11, h => omega
set_option maxRecDepth 100000 in
theorem ly_11_0 : u_lay RX11 TX11 0 ∈ jtbl := jtbl_of (tq_3 _ (List.mem_of_getElem? (i := 145) rfl)) rfl
set_option maxRecDepth 100000 in
theorem ly_11_1 : u_lay RX11 TX11 1 ∈ jtbl := jtbl_of (tq_3 _ (List.mem_of_getElem? (i := 147) rfl)) rfl
set_option maxRecDepth 100000 in
theorem ly_11_2 : u_lay RX11 TX11 2 ∈ jtbl := jtbl_of (tq_3 _ (List.mem_of_getElem? (i := 149) rfl)) rfl
set_option maxRecDepth 100000 in
theorem ly_11_3 : u_lay RX11 TX11 3 ∈ jtbl := jtbl_of (tq_3 _ (List.mem_of_getElem? (i := 151) rfl)) rfl
set_option maxRecDepth 100000 in
theorem ly_11_4 : u_lay RX11 TX11 4 ∈ jtbl := jtbl_of (tq_3 _ (List.mem_of_getElem? (i := 153) rfl)) rfl
set_option maxRecDepth 100000 in
theorem ly_11_5 : u_lay RX11 TX11 5 ∈ jtbl := jtbl_of (tq_3 _ (List.mem_of_getElem? (i := 155) rfl)) rfl
set_option maxRecDepth 100000 in
theorem ly_11_6 : u_lay RX11 TX11 6 ∈ jtbl := jtbl_of (tq_3 _ (List.mem_of_getElem? (i := 157) rfl)) rfl
set_option maxRecDepth 100000 in
theorem ly_11_7 : u_lay RX11 TX11 7 ∈ jtbl := jtbl_of (tq_3 _ (List.mem_of_getElem? (i := 159) rfl)) rfl
set_option maxRecDepth 100000 in
theorem ly_11_8 : u_lay RX11 TX11 8 ∈ jtbl := jtbl_of (tq_3 _ (List.mem_of_getElem? (i := 161) rfl)) rfl
theorem jin_11 : ∀ w ∈ u_ws RX11 TX11 9, w ∈ jtbl := by
  intro w hw
  obtain ⟨k, hk, rfl⟩ := List.mem_map.mp hw
  have hk := List.mem_range.mp hk
  match k, hk with
  | 0, _ => exact ly_11_0
  | 1, _ => exact ly_11_1
  | 2, _ => exact ly_11_2
  | 3, _ => exact ly_11_3
  | 4, _ => exact ly_11_4
  | 5, _ => exact ly_11_5
  | 6, _ => exact ly_11_6
  | 7, _ => exact ly_11_7
  | 8, _ => exact ly_11_8
  | k + 9, h => omega
set_option maxRecDepth 100000 in
theorem ly_12_0 : u_lay RX12 TX12 0 ∈ jtbl := jtbl_of (tq_6 _ (List.mem_of_getElem? (i := 98) rfl)) rfl
set_option maxRecDepth 100000 in
theorem ly_12_1 : u_lay RX12 TX12 1 ∈ jtbl := jtbl_of (tq_6 _ (List.mem_of_getElem? (i := 100) rfl)) rfl
set_option maxRecDepth 100000 in
theorem ly_12_2 : u_lay RX12 TX12 2 ∈ jtbl := jtbl_of (tq_6 _ (List.mem_of_getElem? (i := 102) rfl)) rfl
set_option maxRecDepth 100000 in
theorem ly_12_3 : u_lay RX12 TX12 3 ∈ jtbl := jtbl_of (tq_6 _ (List.mem_of_getElem? (i := 104) rfl)) rfl
set_option maxRecDepth 100000 in
theorem ly_12_4 : u_lay RX12 TX12 4 ∈ jtbl := jtbl_of (tq_6 _ (List.mem_of_getElem? (i := 106) rfl)) rfl
set_option maxRecDepth 100000 in
theorem ly_12_5 : u_lay RX12 TX12 5 ∈ jtbl := jtbl_of (tq_6 _ (List.mem_of_getElem? (i := 108) rfl)) rfl
set_option maxRecDepth 100000 in
theorem ly_12_6 : u_lay RX12 TX12 6 ∈ jtbl := jtbl_of (tq_6 _ (List.mem_of_getElem? (i := 110) rfl)) rfl
set_option maxRecDepth 100000 in
theorem ly_12_7 : u_lay RX12 TX12 7 ∈ jtbl := jtbl_of (tq_6 _ (List.mem_of_getElem? (i := 112) rfl)) rfl
set_option maxRecDepth 100000 in
theorem ly_12_8 : u_lay RX12 TX12 8 ∈ jtbl := jtbl_of (tq_6 _ (List.mem_of_getElem? (i := 114) rfl)) rfl
set_option maxRecDepth 100000 in
theorem ly_12_9 : u_lay RX12 TX12 9 ∈ jtbl := jtbl_of (tq_6 _ (List.mem_of_getElem? (i := 116) rfl)) rfl
set_option maxRecDepth 100000 in
theorem ly_12_10 : u_lay RX12 TX12 10 ∈ jtbl := jtbl_of (tq_6 _ (List.mem_of_getElem? (i := 118) rfl)) rfl
set_option maxRecDepth 100000 in
theorem ly_12_11 : u_lay RX12 TX12 11 ∈ jtbl := jtbl_of (tq_6 _ (List.mem_of_getElem? (i := 120) rfl)) rfl
set_option maxRecDepth 100000 in
theorem ly_12_12 : u_lay RX12 TX12 12 ∈ jtbl := jtbl_of (tq_6 _ (List.mem_of_getElem? (i := 122) rfl)) rfl
set_option maxRecDepth 100000 in
theorem ly_12_13 : u_lay RX12 TX12 13 ∈ jtbl := jtbl_of (tq_6 _ (List.mem_of_getElem? (i := 124) rfl)) rfl
set_option maxRecDepth 100000 in
theorem ly_12_14 : u_lay RX12 TX12 14 ∈ jtbl := jtbl_of (tq_6 _ (List.mem_of_getElem? (i := 126) rfl)) rfl
set_option maxRecDepth 100000 in
theorem ly_12_15 : u_lay RX12 TX12 15 ∈ jtbl := jtbl_of (tq_6 _ (List.mem_of_getElem? (i := 128) rfl)) rfl
set_option maxRecDepth 100000 in
theorem ly_12_16 : u_lay RX12 TX12 16 ∈ jtbl := jtbl_of (tq_6 _ (List.mem_of_getElem? (i := 130) rfl)) rfl
set_option maxRecDepth 100000 in
theorem ly_12_17 : u_lay RX12 TX12 17 ∈ jtbl := jtbl_of (tq_6 _ (List.mem_of_getElem? (i := 132) rfl)) rfl
set_option maxRecDepth 100000 in
theorem ly_12_18 : u_lay RX12 TX12 18 ∈ jtbl := jtbl_of (tq_6 _ (List.mem_of_getElem? (i := 134) rfl)) rfl
set_option maxRecDepth 100000 in
theorem ly_12_19 : u_lay RX12 TX12 19 ∈ jtbl := jtbl_of (tq_6 _ (List.mem_of_getElem? (i := 136) rfl)) rfl
set_option maxRecDepth 100000 in
theorem ly_12_20 : u_lay RX12 TX12 20 ∈ jtbl := jtbl_of (tq_6 _ (List.mem_of_getElem? (i := 138) rfl)) rfl
set_option maxRecDepth 100000 in
theorem ly_12_21 : u_lay RX12 TX12 21 ∈ jtbl := jtbl_of (tq_6 _ (List.mem_of_getElem? (i := 140) rfl)) rfl
set_option maxRecDepth 100000 in
theorem ly_12_22 : u_lay RX12 TX12 22 ∈ jtbl := jtbl_of (tq_6 _ (List.mem_of_getElem? (i := 142) rfl)) rfl
set_option maxRecDepth 100000 in
theorem ly_12_23 : u_lay RX12 TX12 23 ∈ jtbl := jtbl_of (tq_6 _ (List.mem_of_getElem? (i := 144) rfl)) rfl
set_option maxRecDepth 100000 in
theorem ly_12_24 : u_lay RX12 TX12 24 ∈ jtbl := jtbl_of (tq_6 _ (List.mem_of_getElem? (i := 146) rfl)) rfl
set_option maxRecDepth 100000 in
theorem ly_12_25 : u_lay RX12 TX12 25 ∈ jtbl := jtbl_of (tq_6 _ (List.mem_of_getElem? (i := 148) rfl)) rfl
set_option maxRecDepth 100000 in
theorem ly_12_26 : u_lay RX12 TX12 26 ∈ jtbl := jtbl_of (tq_6 _ (List.mem_of_getElem? (i := 150) rfl)) rfl
set_option maxRecDepth 100000 in
theorem ly_12_27 : u_lay RX12 TX12 27 ∈ jtbl := jtbl_of (tq_6 _ (List.mem_of_getElem? (i := 152) rfl)) rfl
set_option maxRecDepth 100000 in
theorem ly_12_28 : u_lay RX12 TX12 28 ∈ jtbl := jtbl_of (tq_6 _ (List.mem_of_getElem? (i := 154) rfl)) rfl
set_option maxRecDepth 100000 in
theorem ly_12_29 : u_lay RX12 TX12 29 ∈ jtbl := jtbl_of (tq_6 _ (List.mem_of_getElem? (i := 156) rfl)) rfl
set_option maxRecDepth 100000 in
theorem ly_12_30 : u_lay RX12 TX12 30 ∈ jtbl := jtbl_of (tq_6 _ (List.mem_of_getElem? (i := 158) rfl)) rfl
set_option maxRecDepth 100000 in
theorem ly_12_31 : u_lay RX12 TX12 31 ∈ jtbl := jtbl_of (tq_6 _ (List.mem_of_getElem? (i := 160) rfl)) rfl
set_option maxRecDepth 100000 in
theorem ly_12_32 : u_lay RX12 TX12 32 ∈ jtbl := jtbl_of (tq_6 _ (List.mem_of_getElem? (i := 162) rfl)) rfl
set_option maxRecDepth 100000 in
theorem ly_12_33 : u_lay RX12 TX12 33 ∈ jtbl := jtbl_of (tq_6 _ (List.mem_of_getElem? (i := 164) rfl)) rfl
set_option maxRecDepth 100000 in
theorem ly_12_34 : u_lay RX12 TX12 34 ∈ jtbl := jtbl_of (tq_6 _ (List.mem_of_getElem? (i := 166) rfl)) rfl
set_option maxRecDepth 100000 in
theorem ly_12_35 : u_lay RX12 TX12 35 ∈ jtbl := jtbl_of (tq_6 _ (List.mem_of_getElem? (i := 168) rfl)) rfl
set_option maxRecDepth 100000 in
theorem ly_12_36 : u_lay RX12 TX12 36 ∈ jtbl := jtbl_of (tq_6 _ (List.mem_of_getElem? (i := 170) rfl)) rfl
set_option maxRecDepth 100000 in
theorem ly_12_37 : u_lay RX12 TX12 37 ∈ jtbl := jtbl_of (tq_6 _ (List.mem_of_getElem? (i := 172) rfl)) rfl
set_option maxRecDepth 100000 in
theorem ly_12_38 : u_lay RX12 TX12 38 ∈ jtbl := jtbl_of (tq_6 _ (List.mem_of_getElem? (i := 174) rfl)) rfl
set_option maxRecDepth 100000 in
theorem ly_12_39 : u_lay RX12 TX12 39 ∈ jtbl := jtbl_of (tq_6 _ (List.mem_of_getElem? (i := 176) rfl)) rfl
set_option maxRecDepth 100000 in
theorem ly_12_40 : u_lay RX12 TX12 40 ∈ jtbl := jtbl_of (tq_6 _ (List.mem_of_getElem? (i := 178) rfl)) rfl
set_option maxRecDepth 100000 in
theorem ly_12_41 : u_lay RX12 TX12 41 ∈ jtbl := jtbl_of (tq_6 _ (List.mem_of_getElem? (i := 180) rfl)) rfl
set_option maxRecDepth 100000 in
theorem ly_12_42 : u_lay RX12 TX12 42 ∈ jtbl := jtbl_of (tq_6 _ (List.mem_of_getElem? (i := 182) rfl)) rfl
set_option maxRecDepth 100000 in
theorem ly_12_43 : u_lay RX12 TX12 43 ∈ jtbl := jtbl_of (tq_6 _ (List.mem_of_getElem? (i := 184) rfl)) rfl
set_option maxRecDepth 100000 in
theorem ly_12_44 : u_lay RX12 TX12 44 ∈ jtbl := jtbl_of (tq_6 _ (List.mem_of_getElem? (i := 186) rfl)) rfl
set_option maxRecDepth 100000 in
theorem ly_12_45 : u_lay RX12 TX12 45 ∈ jtbl := jtbl_of (tq_6 _ (List.mem_of_getElem? (i := 188) rfl)) rfl
set_option maxRecDepth 100000 in
theorem ly_12_46 : u_lay RX12 TX12 46 ∈ jtbl := jtbl_of (tq_6 _ (List.mem_of_getElem? (i := 190) rfl)) rfl
set_option maxRecDepth 100000 in
theorem ly_12_47 : u_lay RX12 TX12 47 ∈ jtbl := jtbl_of (tq_6 _ (List.mem_of_getElem? (i := 192) rfl)) rfl
set_option maxRecDepth 100000 in
theorem ly_12_48 : u_lay RX12 TX12 48 ∈ jtbl := jtbl_of (tq_6 _ (List.mem_of_getElem? (i := 194) rfl)) rfl
set_option maxRecDepth 100000 in
theorem ly_12_49 : u_lay RX12 TX12 49 ∈ jtbl := jtbl_of (tq_6 _ (List.mem_of_getElem? (i := 196) rfl)) rfl
set_option maxRecDepth 100000 in
theorem ly_12_50 : u_lay RX12 TX12 50 ∈ jtbl := jtbl_of (tq_6 _ (List.mem_of_getElem? (i := 198) rfl)) rfl
set_option maxRecDepth 100000 in
theorem ly_12_51 : u_lay RX12 TX12 51 ∈ jtbl := jtbl_of (tq_6 _ (List.mem_of_getElem? (i := 200) rfl)) rfl
set_option maxRecDepth 100000 in
theorem ly_12_52 : u_lay RX12 TX12 52 ∈ jtbl := jtbl_of (tq_6 _ (List.mem_of_getElem? (i := 202) rfl)) rfl
set_option maxRecDepth 100000 in
theorem ly_12_53 : u_lay RX12 TX12 53 ∈ jtbl := jtbl_of (tq_6 _ (List.mem_of_getElem? (i := 204) rfl)) rfl
set_option maxRecDepth 100000 in
theorem ly_12_54 : u_lay RX12 TX12 54 ∈ jtbl := jtbl_of (tq_6 _ (List.mem_of_getElem? (i := 206) rfl)) rfl
set_option maxRecDepth 100000 in
theorem ly_12_55 : u_lay RX12 TX12 55 ∈ jtbl := jtbl_of (tq_6 _ (List.mem_of_getElem? (i := 208) rfl)) rfl
set_option maxRecDepth 100000 in
theorem ly_12_56 : u_lay RX12 TX12 56 ∈ jtbl := jtbl_of (tq_6 _ (List.mem_of_getElem? (i := 210) rfl)) rfl
set_option maxRecDepth 100000 in
theorem ly_12_57 : u_lay RX12 TX12 57 ∈ jtbl := jtbl_of (tq_6 _ (List.mem_of_getElem? (i := 212) rfl)) rfl
set_option maxRecDepth 100000 in
theorem ly_12_58 : u_lay RX12 TX12 58 ∈ jtbl := jtbl_of (tq_6 _ (List.mem_of_getElem? (i := 214) rfl)) rfl
set_option maxRecDepth 100000 in
theorem ly_12_59 : u_lay RX12 TX12 59 ∈ jtbl := jtbl_of (tq_6 _ (List.mem_of_getElem? (i := 216) rfl)) rfl
set_option maxRecDepth 100000 in
theorem ly_12_60 : u_lay RX12 TX12 60 ∈ jtbl := jtbl_of (tq_6 _ (List.mem_of_getElem? (i := 218) rfl)) rfl
set_option maxRecDepth 100000 in
theorem ly_12_61 : u_lay RX12 TX12 61 ∈ jtbl := jtbl_of (tq_6 _ (List.mem_of_getElem? (i := 220) rfl)) rfl
set_option maxRecDepth 100000 in
theorem ly_12_62 : u_lay RX12 TX12 62 ∈ jtbl := jtbl_of (tq_6 _ (List.mem_of_getElem? (i := 222) rfl)) rfl
set_option maxRecDepth 100000 in
theorem ly_12_63 : u_lay RX12 TX12 63 ∈ jtbl := jtbl_of (tq_6 _ (List.mem_of_getElem? (i := 224) rfl)) rfl
set_option maxRecDepth 100000 in
theorem ly_12_64 : u_lay RX12 TX12 64 ∈ jtbl := jtbl_of (tq_6 _ (List.mem_of_getElem? (i := 226) rfl)) rfl
set_option maxRecDepth 100000 in
theorem ly_12_65 : u_lay RX12 TX12 65 ∈ jtbl := jtbl_of (tq_6 _ (List.mem_of_getElem? (i := 228) rfl)) rfl
set_option maxRecDepth 100000 in
theorem ly_12_66 : u_lay RX12 TX12 66 ∈ jtbl := jtbl_of (tq_6 _ (List.mem_of_getElem? (i := 230) rfl)) rfl
set_option maxRecDepth 100000 in
theorem ly_12_67 : u_lay RX12 TX12 67 ∈ jtbl := jtbl_of (tq_6 _ (List.mem_of_getElem? (i := 232) rfl)) rfl
set_option maxRecDepth 100000 in
theorem ly_12_68 : u_lay RX12 TX12 68 ∈ jtbl := jtbl_of (tq_6 _ (List.mem_of_getElem? (i := 234) rfl)) rfl
set_option maxRecDepth 100000 in
theorem ly_12_69 : u_lay RX12 TX12 69 ∈ jtbl := jtbl_of (tq_6 _ (List.mem_of_getElem? (i := 236) rfl)) rfl
set_option maxRecDepth 100000 in
theorem ly_12_70 : u_lay RX12 TX12 70 ∈ jtbl := jtbl_of (tq_6 _ (List.mem_of_getElem? (i := 238) rfl)) rfl
set_option maxRecDepth 100000 in
theorem ly_12_71 : u_lay RX12 TX12 71 ∈ jtbl := jtbl_of (tq_7 _ (List.mem_of_getElem? (i := 0) rfl)) rfl
set_option maxRecDepth 100000 in
theorem ly_12_72 : u_lay RX12 TX12 72 ∈ jtbl := jtbl_of (tq_7 _ (List.mem_of_getElem? (i := 2) rfl)) rfl
set_option maxRecDepth 100000 in
theorem ly_12_73 : u_lay RX12 TX12 73 ∈ jtbl := jtbl_of (tq_7 _ (List.mem_of_getElem? (i := 4) rfl)) rfl
set_option maxRecDepth 100000 in
theorem ly_12_74 : u_lay RX12 TX12 74 ∈ jtbl := jtbl_of (tq_7 _ (List.mem_of_getElem? (i := 6) rfl)) rfl
set_option maxRecDepth 100000 in
theorem ly_12_75 : u_lay RX12 TX12 75 ∈ jtbl := jtbl_of (tq_7 _ (List.mem_of_getElem? (i := 8) rfl)) rfl
set_option maxRecDepth 100000 in
theorem ly_12_76 : u_lay RX12 TX12 76 ∈ jtbl := jtbl_of (tq_7 _ (List.mem_of_getElem? (i := 10) rfl)) rfl
set_option maxRecDepth 100000 in
theorem ly_12_77 : u_lay RX12 TX12 77 ∈ jtbl := jtbl_of (tq_7 _ (List.mem_of_getElem? (i := 12) rfl)) rfl
set_option maxRecDepth 100000 in
theorem ly_12_78 : u_lay RX12 TX12 78 ∈ jtbl := jtbl_of (tq_7 _ (List.mem_of_getElem? (i := 14) rfl)) rfl
set_option maxRecDepth 100000 in
theorem ly_12_79 : u_lay RX12 TX12 79 ∈ jtbl := jtbl_of (tq_7 _ (List.mem_of_getElem? (i := 16) rfl)) rfl
theorem jin_12 : ∀ w ∈ u_ws RX12 TX12 80, w ∈ jtbl := by
  intro w hw
  obtain ⟨k, hk, rfl⟩ := List.mem_map.mp hw
  have hk := List.mem_range.mp hk
  match k, hk with
  | 0, _ => exact ly_12_0
  | 1, _ => exact ly_12_1
  | 2, _ => exact ly_12_2
  | 3, _ => exact ly_12_3
  | 4, _ => exact ly_12_4
  | 5, _ => exact ly_12_5
  | 6, _ => exact ly_12_6
  | 7, _ => exact ly_12_7
  | 8, _ => exact ly_12_8
  | 9, _ => exact ly_12_9
  | 10, _ => exact ly_12_10
  | 11, _ => exact ly_12_11
  | 12, _ => exact ly_12_12
  | 13, _ => exact ly_12_13
  | 14, _ => exact ly_12_14
  | 15, _ => exact ly_12_15
  | 16, _ => exact ly_12_16
  | 17, _ => exact ly_12_17
  | 18, _ => exact ly_12_18
  | 19, _ => exact ly_12_19
  | 20, _ => exact ly_12_20
  | 21, _ => exact ly_12_21
  | 22, _ => exact ly_12_22
  | 23, _ => exact ly_12_23
  | 24, _ => exact ly_12_24
  | 25, _ => exact ly_12_25
  | 26, _ => exact ly_12_26
  | 27, _ => exact ly_12_27
  | 28, _ => exact ly_12_28
  | 29, _ => exact ly_12_29
  | 30, _ => exact ly_12_30
  | 31, _ => exact ly_12_31
  | 32, _ => exact ly_12_32
  | 33, _ => exact ly_12_33
  | 34, _ => exact ly_12_34
  | 35, _ => exact ly_12_35
  | 36, _ => exact ly_12_36
  | 37, _ => exact ly_12_37
  | 38, _ => exact ly_12_38
  | 39, _ => exact ly_12_39
  | 40, _ => exact ly_12_40
  | 41, _ => exact ly_12_41
  | 42, _ => exact ly_12_42
  | 43, _ => exact ly_12_43
  | 44, _ => exact ly_12_44
  | 45, _ => exact ly_12_45
  | 46, _ => exact ly_12_46
  | 47, _ => exact ly_12_47
  | 48, _ => exact ly_12_48
  | 49, _ => exact ly_12_49
  | 50, _ => exact ly_12_50
  | 51, _ => exact ly_12_51
  | 52, _ => exact ly_12_52
  | 53, _ => exact ly_12_53
  | 54, _ => exact ly_12_54
  | 55, _ => exact ly_12_55
  | 56, _ => exact ly_12_56
  | 57, _ => exact ly_12_57
  | 58, _ => exact ly_12_58
  | 59, _ => exact ly_12_59
  | 60, _ => exact ly_12_60
  | 61, _ => exact ly_12_61
  | 62, _ => exact ly_12_62
  | 63, _ => exact ly_12_63
  | 64, _ => exact ly_12_64
  | 65, _ => exact ly_12_65
  | 66, _ => exact ly_12_66
  | 67, _ => exact ly_12_67
  | 68, _ => exact ly_12_68
  | 69, _ => exact ly_12_69
  | 70, _ => exact ly_12_70
  | 71, _ => exact ly_12_71
  | 72, _ => exact ly_12_72
  | 73, _ => exact ly_12_73
  | 74, _ => exact ly_12_74
  | 75, _ => exact ly_12_75
  | 76, _ => exact ly_12_76
  | 77, _ => exact ly_12_77
  | 78, _ => exact ly_12_78
  | 79, _ => exact ly_12_79
  | k + 80, h => omega
theorem jin_ok {ci : Nat} {q : vw_C} (h : jcl[ci]? = some q) : ∀ w ∈ u_ws q.1 q.2.1 q.2.2, w ∈ jtbl := by
  match ci, h with
  | 0, h => cases h; exact jin_0
  | 1, h => cases h; exact jin_1
  | 2, h => cases h; exact jin_2
  | 3, h => cases h; exact jin_3
  | 4, h => cases h; exact jin_4
  | 5, h => cases h; exact jin_5
  | 6, h => cases h; exact jin_6
  | 7, h => cases h; exact jin_7
  | 8, h => cases h; exact jin_8
  | 9, h => cases h; exact jin_9
  | 10, h => cases h; exact jin_10
  | 11, h => cases h; exact jin_11
  | 12, h => cases h; exact jin_12
  | k + 13, h => simp [jcl] at h
/-- how a value of the small machine stands in the great one: .float is the law's script -/
def jtr (ad : Nat → Nat) (b : Nat) : Value → Value
  | .ref k => .ref (ad k)
  | .float _ => .ref b
  | v => v
def jfv (ad : Nat → Nat) (μ : jM) (ty : FieldType) (a k : Nat) : Value := match ty with
  | .long => .long (μ.2.1 a k)
  | .object _ => va_rf ((μ.2.2 a k).map ad)
  | .array _ => va_rf ((μ.2.2 a k).map ad)
  | _ => .int (μ.1 a k)
def jfs (ad : Nat → Nat) (μ : jM) (ci a N : Nat) : List Value := (List.range N).map (fun k => jfv ad μ (jty ci k) a k)
def jA (ad : Nat → Nat) (μ : jM) (kind n a : Nat) : vp_A := match kind with
  | 3 => (n, .inr (.inl (μ.2.1 a)))
  | 4 => (n, .inr (.inr (.inr (.inr (fun k => (μ.2.2 a k).map ad)))))
  | _ => (n, .inl (μ.1 a))
def jE (cA : Nat → ClassId) (ad : Nat → Nat) (μ : jM) (a : Nat) (sh : Nat × Nat) : va_E := if sh.1 < 5 then .inl (cA sh.1, jA ad μ sh.1 sh.2 a) else .inr (sh.1 - 5, jfs ad μ (sh.1 - 5) a sh.2)
def jW (G : jG) (cA : Nat → ClassId) (ad : Nat → Nat) (μ : jM) : va_W := G.mapIdx (fun a sh => (ad a, jE cA ad μ a sh))
def jtys (cA : Nat → ClassId) : List (ClassId × FieldType) := [(cA 0, .int), (cA 1, .byte), (cA 2, .boolean), (cA 3, .long), (cA 4, .object RX9)]
def jL (sl : Array Slot) (nL : Nat) (ad : Nat → Nat) (b : Nat) (ls : List Value) : Prop := sl.size = nL ∧ lv_wf sl ∧ ∀ (i : Nat) (v : Value), ls[i]? = some v → v ≠ .null → sl[i]? = some (.val (jtr ad b v))
abbrev jMt : Type := MethodName × ByteArray × Nat × Option FieldType
abbrev jQF : Type := List Frame → Array Value → State → va_G → (Nat → ClassId) → (Nat → Nat) → (Nat → Prop) → Nat → State → Prop
abbrev jEX : Type := Array Value → State → (Nat → Prop) → Nat → Prop
abbrev jZ : Type := Room × jQF × jEX × ((Nat → Nat) → (Nat → Nat) → Prop)
def jOK (M : jMt) (p : Program) (s : State) (m : MethodId) (args : Array Value) (meth : Method) (c : Code) : Prop :=
  p.tables.exec = Jvm.exec ∧ c.code = M.2.1 ∧ meth.sig.returnType = M.2.2.2 ∧ c.maxLocals = M.2.2.1 ∧ s.vm.findClass M.1.cls = some m.cls ∧ (∀ w ∈ jtbl, w.before args s = true) ∧ meth.locks = false ∧ (M.1.name = "<init>" → meth.name = "<init>")
def jR (G : jG) (cA : Nat → ClassId) (ad : Nat → Nat) (D : va_G) (A : Nat → Prop) (s : State) (H : Heap) (locs : List Loc) (μ : jM) : Prop :=
  (∀ q, s.heap.size ≤ q → A q) ∧ (va_K D jcl (jtys cA) s ∧ jNW s) ∧ va_P D jcl (jW G cA ad μ) H ∧ va_D A (jW G cA ad μ) ∧ va_S A s.heap H locs
def J (l : Launch) (M : jMt) (Z : jZ) (G : jG) (k n pc : Nat) (ls st : List Value) (μ : jM) : Prop :=
  ∀ (p : Program) (e : Env) (s : State) (m : MethodId) (args : Array Value) (below : List Frame) (meth : Method) (c : Code) (D : va_G) (cA : Nat → ClassId) (ad0 ad : Nat → Nat) (A : Nat → Prop) (b : Nat) (H : Heap) (locs : List Loc) (sl : Array Slot),
    jOK M p s m args meth c → Z.2.2.1 args s A b → Z.2.2.2 ad0 ad → (k ≤ Z.1.cells ∧ n ≤ Z.1.slots) → jR G cA ad D A s H locs μ → jL sl M.2.2.1 ad b ls →
    W p l e Z.1 s m args below meth c H locs k n (Z.2.1 below args s D cA ad0 A b) (F0 m pc sl (st.map (jtr ad b)))
/-! the memory's words -/
def wI (μ : jM) (a i : Nat) (x : Int32) : jM := (fun c => if c = a then upd (μ.1 a) i x else μ.1 c, μ.2)
def wL (μ : jM) (a i : Nat) (x : Int64) : jM := (μ.1, fun c => if c = a then vp_updL (μ.2.1 a) i x else μ.2.1 c, μ.2.2)
def wP (μ : jM) (a i : Nat) (x : Option Nat) : jM := (μ.1, μ.2.1, fun c => if c = a then va_up (μ.2.2 a) i x else μ.2.2 c)
def sI (μ : jM) (a : Nat) (f : Nat → Int32) : jM := (fun c => if c = a then f else μ.1 c, μ.2)
def sL (μ : jM) (a : Nat) (f : Nat → Int64) : jM := (μ.1, fun c => if c = a then f else μ.2.1 c, μ.2.2)
/-- a new cell: all of it 0 -/
def z0 (μ : jM) (a : Nat) : jM := (fun c => if c = a then fun _ => 0 else μ.1 c, fun c => if c = a then fun _ => 0 else μ.2.1 c, fun c => if c = a then fun _ => none else μ.2.2 c)
theorem jW_get {G : jG} {cA : Nat → ClassId} {ad : Nat → Nat} {μ : jM} {a : Nat} {sh : Nat × Nat} (h : G[a]? = some sh) : (jW G cA ad μ)[a]? = some (ad a, jE cA ad μ a sh) := by
  rw [jW, List.getElem?_mapIdx, h]; rfl
theorem jW_set {G : jG} {cA : Nat → ClassId} {ad : Nat → Nat} {μ μ' : jM} {a : Nat} {sh : Nat × Nat} (h : G[a]? = some sh) (ho : ∀ c, c ≠ a → ∀ q, jE cA ad μ' c q = jE cA ad μ c q) {x : va_E} (hx : x = jE cA ad μ' a sh) : (jW G cA ad μ).set a (ad a, x) = jW G cA ad μ' := by
  subst hx
  apply List.ext_getElem?
  intro i
  rw [List.getElem?_set]
  by_cases hi : a = i
  · subst hi
    have hl : a < (jW G cA ad μ).length := by
      rw [jW, List.length_mapIdx]; exact (List.getElem?_eq_some_iff.mp h).1
    rw [if_pos rfl, if_pos hl, jW_get h]
  · rw [if_neg hi, jW, jW, List.getElem?_mapIdx, List.getElem?_mapIdx]
    cases G[i]? with
    | none => rfl
    | some q => simp [ho i (fun z => hi z.symm) q]
theorem jfv_off {ad : Nat → Nat} {μ μ' : jM} {ty : FieldType} {c k : Nat} (h1 : μ'.1 c = μ.1 c) (h2 : μ'.2.1 c = μ.2.1 c) (h3 : μ'.2.2 c = μ.2.2 c) : jfv ad μ' ty c k = jfv ad μ ty c k := by
  cases ty <;> simp [jfv, h1, h2, h3]
theorem jE_off {cA : Nat → ClassId} {ad : Nat → Nat} {μ μ' : jM} {c : Nat} {q : Nat × Nat} (h1 : μ'.1 c = μ.1 c) (h2 : μ'.2.1 c = μ.2.1 c) (h3 : μ'.2.2 c = μ.2.2 c) : jE cA ad μ' c q = jE cA ad μ c q := by
  unfold jE
  have e1 : jA ad μ' q.1 q.2 c = jA ad μ q.1 q.2 c := by
    unfold jA; split <;> simp [h1, h2, h3]
  have e2 : jfs ad μ' (q.1 - 5) c q.2 = jfs ad μ (q.1 - 5) c q.2 := by
    unfold jfs; congr 1; funext k; exact jfv_off h1 h2 h3
  rw [e1, e2]
theorem wI_off {cA : Nat → ClassId} {ad : Nat → Nat} {μ : jM} {a i : Nat} {x : Int32} : ∀ c, c ≠ a → ∀ q, jE cA ad (wI μ a i x) c q = jE cA ad μ c q := fun c h q => jE_off (by simp [wI, h]) rfl rfl
theorem wL_off {cA : Nat → ClassId} {ad : Nat → Nat} {μ : jM} {a i : Nat} {x : Int64} : ∀ c, c ≠ a → ∀ q, jE cA ad (wL μ a i x) c q = jE cA ad μ c q := fun c h q => jE_off rfl (by simp [wL, h]) rfl
theorem wP_off {cA : Nat → ClassId} {ad : Nat → Nat} {μ : jM} {a i : Nat} {x : Option Nat} : ∀ c, c ≠ a → ∀ q, jE cA ad (wP μ a i x) c q = jE cA ad μ c q := fun c h q => jE_off rfl rfl (by simp [wP, h])
theorem sI_off {cA : Nat → ClassId} {ad : Nat → Nat} {μ : jM} {a : Nat} {f : Nat → Int32} : ∀ c, c ≠ a → ∀ q, jE cA ad (sI μ a f) c q = jE cA ad μ c q := fun c h q => jE_off (by simp [sI, h]) rfl rfl
/-- an object's fields with one of them set -/
theorem jfs_set {ad : Nat → Nat} {μ μ' : jM} {ci a N k : Nat} {v : Value} (hk : k < N) (hv : v = jfv ad μ' (jty ci k) a k) (ho : ∀ j, j ≠ k → jfv ad μ' (jty ci j) a j = jfv ad μ (jty ci j) a j) : (jfs ad μ ci a N).set k v = jfs ad μ' ci a N := by
  subst hv
  apply List.ext_getElem?
  intro i
  rw [List.getElem?_set]
  by_cases hi : k = i
  · subst hi
    simp [jfs, hk]
  · rw [if_neg hi]
    by_cases hn : i < N
    · simp [jfs, hn, ho i (fun z => hi z.symm)]
    · simp [jfs, hn]
theorem jfs_len {ad : Nat → Nat} {μ : jM} {ci a N : Nat} : (jfs ad μ ci a N).length = N := by simp [jfs]
theorem jfs_at {ad : Nat → Nat} {μ : jM} {ci a N k : Nat} (hk : k < N) : (jfs ad μ ci a N)[k]? = some (jfv ad μ (jty ci k) a k) := by simp [jfs, hk]
theorem jE_obj {cA : Nat → ClassId} {ad : Nat → Nat} {μ : jM} {a ci N : Nat} : jE cA ad μ a (ci + 5, N) = .inr (ci, jfs ad μ ci a N) := by
  unfold jE; rw [if_neg (by simp)]; simp
