/-! THE LAW: its loop -/
section LawL
variable {l : Launch} {L : Nat} {xs : Nat → Int32} {X : jEX}
theorem law_cmp {i : Nat} (hL : L ≤ 3072) (hi : i ≤ 3072) : Int32.ofNat L - 6 < nI i ↔ L < i + 6 := by
  rw [Int32.lt_iff_toInt_lt, nI_toInt (by omega), show Int32.ofNat L - 6 = nI L - nI 6 from rfl, pk_sub_toInt (by omega) (by decide)]
  omega
theorem lp_law (hL : L ≤ 3072) : ∀ (m s B k n : Nat) (G : jG) (a : aS) (μ : jM), m + s = 512 → lwI G a B μ → B ≤ 30 * s → k ≤ 167 + 2 * s → n ≤ 23712 + 5504 * s → J l mL (jZL L xs X) G k n 18 [.float 0, .ref 0, .ref 112, .int (nI (6 * s))] [] μ := by
  intro m
  induction m with
  | zero =>
    intro s B k n G a μ hs hI hB hk hn
    refine j_iload_n dL_18 rfl rfl ?_
    refine j_aload_nF dL_19 rfl rfl ?_
    refine j_slen dL_20 rfl ?_
    refine j_bipush 6 dL_21 rfl (by decide) ?_
    refine j_isub dL_23 rfl ?_
    refine j_icmp_gt 1307 dL_24 rfl (by decide) (fun _ => ?_) (fun h => absurd ((law_cmp hL (by omega)).mpr (by omega)) h)
    refine j_iconst 1 dL_1307 rfl (by decide) ?_
    exact j_lawEnd
  | succ m ih =>
    intro s B k n G a μ hs hI hB hk hn
    refine j_iload_n dL_18 rfl rfl ?_
    refine j_aload_nF dL_19 rfl rfl ?_
    refine j_slen dL_20 rfl ?_
    refine j_bipush 6 dL_21 rfl (by decide) ?_
    refine j_isub dL_23 rfl ?_
    refine j_icmp_gt 1307 dL_24 rfl (by decide) (fun _ => ?_) (fun h => ?_)
    · refine j_iconst 1 dL_1307 rfl (by decide) ?_
      exact j_lawEnd
    · have hi : 6 * s + 6 ≤ L := Nat.le_of_not_lt (fun h2 => h ((law_cmp hL (by omega)).mpr h2))
      have nx : ∀ G' B' k' n' a' μ', lwI G' a' B' μ' → B' ≤ 30 * (s + 1) → k' ≤ 167 + 2 * (s + 1) → n' ≤ 23712 + 5504 * (s + 1) → J l mL (jZL L xs X) G' k' n' 1301 [.float 0, .ref 0, .ref 112, .int (nI (6 * s))] [] μ' := fun G' B' k' n' a' μ' h1 h2 h3 h4 => by
        refine j_iinc (nI (6 * (s + 1))) (ls' := [.float 0, .ref 0, .ref 112, .int (nI (6 * (s + 1)))]) dL_1301 rfl rfl (by rw [show Int32.ofInt 6 = nI 6 from rfl, nI_add, Nat.mul_succ]) (Nat.le_of_ble_eq_true rfl) rfl ?_
        refine j_goto 18 dL_1304 (by decide) ?_
        exact ih (s + 1) B' k' n' G' a' μ' (by omega) h1 h2 h3 h4
      have K1 : ∀ B' a' μ', lwI G a' B' μ' → B' ≤ B + 30 → J l mL (jZL L xs X) G k n 1301 [.float 0, .ref 0, .ref 112, .int (nI (6 * s))] [] μ' := fun B' a' μ' h1 h2 => nx G B' k n a' μ' h1 (by omega) (by omega) (by omega)
      have K2 : ∀ G' μ', lwI G' a B μ' → J l mL (jZL L xs X) G' (k + 2) (n + 5504) 1301 [.float 0, .ref 0, .ref 112, .int (nI (6 * s))] [] μ' := fun G' μ' h1 => nx G' B (k + 2) (n + 5504) a μ' h1 (by omega) (by omega) (by omega)
      have hBB : B + 230 ≤ BB := by unfold BB; omega
      have hk2 : k + 2 ≤ 600000 ∧ n + 5504 ≤ 7302250 := by omega
      refine j_aload_nF dL_27 rfl rfl ?_
      refine j_iload_n dL_28 rfl rfl ?_
      refine j_sld dL_29 rfl (vp_in_nI (by omega) (by omega)) ?_
      refine j_bipush 63 dL_30 rfl (by decide) ?_
      refine j_iand dL_32 rfl ?_
      obtain ⟨c, hc, e⟩ := pk_andE (xs (nI (6 * s)).toNatClampNeg) (m := 63) 6 (by decide)
      rw [e]
      rcases (by omega : c = 0 ∨ c = 1 ∨ c = 2 ∨ c = 3 ∨ c = 4 ∨ c = 5 ∨ c = 6 ∨ c = 7 ∨ c = 8 ∨ c = 9 ∨ c = 10 ∨ c = 11 ∨ c = 12 ∨ c = 13 ∨ c = 14 ∨ c = 15 ∨ c = 16 ∨ c = 17 ∨ c = 18 ∨ c = 19 ∨ c = 20 ∨ c = 21 ∨ c = 22 ∨ c = 23 ∨ c = 24 ∨ c = 25 ∨ c = 26 ∨ c = 27 ∨ c = 28 ∨ c = 29 ∨ c = 30 ∨ c = 31 ∨ c = 32 ∨ c = 33 ∨ c = 34 ∨ c = 35 ∨ c = 36 ∨ 37 ≤ c) with rfl | rfl | rfl | rfl | rfl | rfl | rfl | rfl | rfl | rfl | rfl | rfl | rfl | rfl | rfl | rfl | rfl | rfl | rfl | rfl | rfl | rfl | rfl | rfl | rfl | rfl | rfl | rfl | rfl | rfl | rfl | rfl | rfl | rfl | rfl | rfl | rfl | h37
      · exact j_tableIn (off := 163) 196 dL_33 (by decide) (by decide) (by decide) (by decide) (law_feed hI hBB hi hL K1)
      · exact j_tableIn (off := 226) 259 dL_33 (by decide) (by decide) (by decide) (by decide) (law_back hI hBB hi hL K1)
      · exact j_tableIn (off := 249) 282 dL_33 (by decide) (by decide) (by decide) (by decide) (law_read hI hBB hi hL K1)
      · exact j_tableIn (off := 262) 295 dL_33 (by decide) (by decide) (by decide) (by decide) (law_place hI hBB hi hL K1)
      · exact j_tableIn (off := 275) 308 dL_33 (by decide) (by decide) (by decide) (by decide) (law_road hI hBB hi hL K1)
      · exact j_tableIn (off := 308) 341 dL_33 (by decide) (by decide) (by decide) (by decide) (law_ghost hI hBB hi hL K1)
      · exact j_tableIn (off := 341) 374 dL_33 (by decide) (by decide) (by decide) (by decide) (law_cost hI hBB hi hL K1)
      · exact j_tableIn (off := 374) 407 dL_33 (by decide) (by decide) (by decide) (by decide) (law_way hI hBB hi hL K1)
      · exact j_tableIn (off := 407) 440 dL_33 (by decide) (by decide) (by decide) (by decide) (law_wayAt hI hBB hi hL K1)
      · exact j_tableIn (off := 440) 473 dL_33 (by decide) (by decide) (by decide) (by decide) (law_gate hI hBB hi hL K1)
      · exact j_tableIn (off := 489) 522 dL_33 (by decide) (by decide) (by decide) (by decide) (law_rate hI hBB hi hL K1)
      · exact j_tableIn (off := 512) 545 dL_33 (by decide) (by decide) (by decide) (by decide) (law_mend hI hBB hi hL K1)
      · exact j_tableIn (off := 535) 568 dL_33 (by decide) (by decide) (by decide) (by decide) (law_nights hI hBB hi hL K1)
      · exact j_tableIn (off := 558) 591 dL_33 (by decide) (by decide) (by decide) (by decide) (law_undo hI hBB hi hL K1)
      · exact j_tableIn (off := 571) 604 dL_33 (by decide) (by decide) (by decide) (by decide) (law_tonight hI hBB hi hL K1)
      · exact j_tableIn (off := 594) 627 dL_33 (by decide) (by decide) (by decide) (by decide) (law_put hI hBB hi hL K1)
      · exact j_tableIn (off := 637) 670 dL_33 (by decide) (by decide) (by decide) (by decide) (law_free hI hBB hi hL K1)
      · exact j_tableIn (off := 650) 683 dL_33 (by decide) (by decide) (by decide) (by decide) (law_stop hI hBB hi hL K1)
      · exact j_tableIn (off := 673) 706 dL_33 (by decide) (by decide) (by decide) (by decide) (law_saves hI hBB hi hL K1)
      · exact j_tableIn (off := 696) 729 dL_33 (by decide) (by decide) (by decide) (by decide) (law_pays hI hBB hi hL K1)
      · exact j_tableIn (off := 729) 762 dL_33 (by decide) (by decide) (by decide) (by decide) (law_seen hI hBB hi hL K1)
      · exact j_tableIn (off := 762) 795 dL_33 (by decide) (by decide) (by decide) (by decide) (law_busiest hI hBB hi hL K1)
      · exact j_tableIn (off := 795) 828 dL_33 (by decide) (by decide) (by decide) (by decide) (law_best hI hBB hi hL K1)
      · exact j_tableIn (off := 828) 861 dL_33 (by decide) (by decide) (by decide) (by decide) (law_keepers hI hBB hi hL K1)
      · exact j_tableIn (off := 861) 894 dL_33 (by decide) (by decide) (by decide) (by decide) (law_breaks hI hBB hi hL K1)
      · exact j_tableIn (off := 884) 917 dL_33 (by decide) (by decide) (by decide) (by decide) (law_first hI hBB hi hL K1)
      · exact j_tableIn (off := 907) 940 dL_33 (by decide) (by decide) (by decide) (by decide) (law_meets hI hBB hi hL K1)
      · exact j_tableIn (off := 940) 973 dL_33 (by decide) (by decide) (by decide) (by decide) (law_cutOff hI hBB hi hL K1)
      · exact j_tableIn (off := 963) 996 dL_33 (by decide) (by decide) (by decide) (by decide) (law_year hI hBB hi hL K1)
      · exact j_tableIn (off := 996) 1029 dL_33 (by decide) (by decide) (by decide) (by decide) (law_sheet hI hBB hi hL K1)
      · exact j_tableIn (off := 1061) 1094 dL_33 (by decide) (by decide) (by decide) (by decide) (law_tell hI hBB hi hL K1)
      · exact j_tableIn (off := 1120) 1153 dL_33 (by decide) (by decide) (by decide) (by decide) (law_forget hI hBB hi hL K1)
      · exact j_tableIn (off := 1133) 1166 dL_33 (by decide) (by decide) (by decide) (by decide) (law_who hI hi hL hk2 K2)
      · exact j_tableIn (off := 1166) 1199 dL_33 (by decide) (by decide) (by decide) (by decide) (law_watch hI hi hL hk2 K2)
      · exact j_tableIn (off := 1199) 1232 dL_33 (by decide) (by decide) (by decide) (by decide) (law_hold hI hBB hi hL K1)
      · exact j_tableIn (off := 1222) 1255 dL_33 (by decide) (by decide) (by decide) (by decide) (law_restore hI hBB hi hL K1)
      · exact j_tableIn (off := 1245) 1278 dL_33 (by decide) (by decide) (by decide) (by decide) (law_count hI hBB hi hL K1)
      · exact j_tableOut 1301 dL_33 (Or.inr (by rw [nI_toInt (by omega)]; omega)) (by decide) (K1 B a μ hI (by omega))
end LawL
