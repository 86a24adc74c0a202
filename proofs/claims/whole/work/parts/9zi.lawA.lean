/-! THE LAW: its machine -/
def mL : jMt := (x, code, 4, ret)
def lawX (L : Nat) (xs : Nat → Int32) : jEX := fun args s A b => args = #[Value.ref b] ∧ va_X b L xs s s.heap ∧ b < s.heap.size ∧ ∀ q, A q → s.heap.size ≤ q
def jZL (L : Nat) (xs : Nat → Int32) (X : jEX) : jZ := (room_1, fun below args s _ _ _ _ _ => lw_Z below args s, fun args s A b => lawX L xs args s A b ∧ X args s A b, fun _ _ => True)
theorem jZg_L {L g : Nat} {xs : Nat → Int32} {X : jEX} : jZg (jZL L xs X) g := fun _ _ _ _ _ => trivial
section LawA
variable {l : Launch} {L : Nat} {xs : Nat → Int32} {X : jEX} {G : jG} {k n pc q : Nat} {ls st : List Value} {μ : jM}
theorem j_lawEnd : J l mL (jZL L xs X) G k n 1308 ls [.int 1] μ := by
  intro p e s m args below meth c D cA ad0 ad A b H locs sl ok ex hAD hcs hR hL
  obtain ⟨⟨rfl, hx, hb, hA⟩, -⟩ := ex
  refine va_forget (fun q hq => hA _ (hR.2.2.2.2.2.2 q hq)) (W.widen hcs.1 hcs.2 ?_)
  exact lw_ret ok.1 ok.2.1 ok.2.2.1 ok.2.2.2.2.2.2.1 dL_1308
theorem j_sld {i : Int32} {z : UInt32} (hd : decode code pc = .ok (.iaload, 1)) (hq : pc + 1 = q) (hin : vp_in i L) (K : J l mL (jZL L xs X) G k n q ls (.int (xs i.toNatClampNeg) :: st) μ) : J l mL (jZL L xs X) G k n pc ls (.int i :: .float z :: st) μ := by
  intro p e s m args below meth c D cA ad0 ad A b H locs sl ok ex hAD hcs hR hL
  subst hq
  obtain ⟨⟨ha, hx, hb, hA⟩, hX⟩ := id ex
  exact va_sld ok.1 ok.2.1 hx hb (fun z => absurd (hA b z) (by omega)) hR.2.2.2.2 hin hd (K p e s m args below meth c D cA ad0 ad A b H locs sl ok ex hAD hcs hR hL)
theorem j_slen {z : UInt32} (hd : decode code pc = .ok (.arraylength, 1)) (hq : pc + 1 = q) (K : J l mL (jZL L xs X) G k n q ls (.int (Int32.ofNat L) :: st) μ) : J l mL (jZL L xs X) G k n pc ls (.float z :: st) μ := by
  intro p e s m args below meth c D cA ad0 ad A b H locs sl ok ex hAD hcs hR hL
  subst hq
  obtain ⟨⟨ha, hx, hb, hA⟩, hX⟩ := id ex
  exact va_slen ok.1 ok.2.1 hx hb (fun z => absurd (hA b z) (by omega)) hR.2.2.2.2 hd (K p e s m args below meth c D cA ad0 ad A b H locs sl ok ex hAD hcs hR hL)
end LawA
