/-! THE LAW: who, watch -/
theorem jSc_f {g : Nat} {z : UInt32} {vs : List Value} (h : jSc g vs) : jSc g (.float z :: vs) := fun v hv y e => by
  rcases List.mem_cons.mp hv with rfl | hv
  · cases e
  · exact h v hv y e
theorem okA_I {G G' : jG} {a : aS} {B t d : Nat} {μ μ' : jM} (hM : gMM G) (hg : 167 ≤ G.length) (hm : mI a μ) (hb : byO (gY a)) (hN : gNN μ) (kc : kwC μ) (vk : vK μ) (km : kwM μ) (ok : aOK a B) (h : okA a B t d μ G μ' G') : lwI G' a B μ' := by
  obtain ⟨h1, ⟨h2, h3⟩, h4, h5, h6, h7⟩ := h
  refine ⟨⟨fun i sh hx => h3 i sh (hM i sh hx), h1, by omega⟩, ⟨t, d, h4⟩, mI_row (fun c h8 h9 => (h6.1 c h8 h9).1) hm, ok, hb, ⟨h5, fun i f x hx => ?_⟩, ⟨?_, ?_, ?_⟩, h7⟩
  · have := gN_112 hx
    subst this
    rw [(h6.1 112 (by decide) (by decide)).2.2]; exact hN _ f x hx
  · unfold kwC at kc ⊢; rw [h6.2.1]; exact kc
  · intro d' hd q hq i hi
    have e : μ'.1 (lw d' q) 3 = μ.1 (lw d' q) 3 := h6.2.2 (lw d' q) (by unfold kxI lw; omega)
    rw [e]; exact vk d' hd q hq i hi
  · unfold kwM at km ⊢; rw [(h6.1 119 (by decide) (by decide)).2.1]; exact km
section LawW
variable {l : Launch} {L i B k n : Nat} {xs : Nat → Int32} {X : jEX} {G : jG} {a : aS} {μ : jM}
theorem law_who (hI : lwI G a B μ) (hi : i + 6 ≤ L) (hL : L ≤ 3072) (hk : k + 2 ≤ 600000 ∧ n + 5504 ≤ 7302250) (K : ∀ G' μ', lwI G' a B μ' → J l mL (jZL L xs X) G' (k + 2) (n + 5504) 1301 [.float 0, .ref 0, .ref 112, .int (nI i)] [] μ') : J l mL (jZL L xs X) G k n 1166 [.float 0, .ref 0, .ref 112, .int (nI i)] [] μ := by
  obtain ⟨⟨hM, hG, hg⟩, ⟨t, d, hc⟩, hm, ok, hb, ⟨hP, hN⟩, ⟨kc, vk, km⟩, cl⟩ := hI
  refine j_aload_n dL_1166 rfl rfl ?_
  refine j_aload_nF dL_1167 rfl rfl ?_
  refine j_iload_n dL_1168 rfl rfl ?_
  refine j_iconst 1 dL_1169 rfl (by decide) ?_
  refine j_iadd dL_1170 rfl ?_
  refine j_sld dL_1171 rfl (vp6 (j := 1) hi (by decide) hL) ?_
  refine j_aload_nF dL_1172 rfl rfl ?_
  refine j_iload_n dL_1173 rfl rfl ?_
  refine j_iconst 2 dL_1174 rfl (by decide) ?_
  refine j_iadd dL_1175 rfl ?_
  refine j_sld dL_1176 rfl (vp6 (j := 2) hi (by decide) hL) ?_
  refine j_cVA (as := [.int (xs ((nI i + 1).toNatClampNeg)), .int (xs ((nI i + 2).toNatClampNeg))]) (rest := []) dL_1177 rfl vw_L_151 (hG 0 (16, 9) rfl) rfl ⟨Nat.le_of_ble_eq_true rfl, Nat.le_of_ble_eq_true rfl⟩ rfl rfl (fun _ _ => Nat.le_of_ble_eq_true rfl) tX_ok (fun _ _ _ _ _ => trivial) hk jZg_L (jSc_f (jSc_r (by omega) (jSc_r (by omega) (jSc_i jSc_0)))) (c_X11_who hG hP hc ok hg cl (xs ((nI i + 1).toNatClampNeg)) (xs ((nI i + 2).toNatClampNeg))) ?_
  rintro _ μ1 G1 ⟨rfl, h1⟩
  have I1 := okA_I hM hg hm hb hN kc vk km ok h1
  have m1 := I1.2.2.1
  obtain ⟨⟨hM1, hG1, hg1⟩, ⟨t1, d1, c1⟩, -, ok1, hb1, ⟨P1, N1⟩, ⟨kc1, vk1, km1⟩, cl1⟩ := I1
  refine j_aload_n dL_1180 rfl rfl ?_
  refine j_aload_nF dL_1181 rfl rfl ?_
  refine j_iload_n dL_1182 rfl rfl ?_
  refine j_iconst 1 dL_1183 rfl (by decide) ?_
  refine j_iadd dL_1184 rfl ?_
  refine j_sld dL_1185 rfl (vp6 (j := 1) hi (by decide) hL) ?_
  refine j_aload_nF dL_1186 rfl rfl ?_
  refine j_iload_n dL_1187 rfl rfl ?_
  refine j_iconst 2 dL_1188 rfl (by decide) ?_
  refine j_iadd dL_1189 rfl ?_
  refine j_sld dL_1190 rfl (vp6 (j := 2) hi (by decide) hL) ?_
  refine j_cV (as := [.int (xs ((nI i + 1).toNatClampNeg)), .int (xs ((nI i + 2).toNatClampNeg))]) (rest := [.int _]) dL_1191 rfl vw_L_154 (hM1 112 (17, 80) rfl) rfl ⟨Nat.le_of_ble_eq_true rfl, Nat.le_of_ble_eq_true rfl⟩ rfl rfl (fun _ _ => Nat.le_of_ble_eq_true rfl) (c_X12_who hM1 N1 m1 ok1 (xs ((nI i + 1).toNatClampNeg)) (xs ((nI i + 2).toNatClampNeg))) ?_
  rintro _ μ2 ⟨_, rfl, rfl, q2⟩
  obtain ⟨m2, N2, l2⟩ := mI_q m1 q2 N1
  have g2 := l2.G
  exact j_icmp_eq 1301 dL_1194 rfl (by decide) (fun _ => K G1 μ2 ⟨⟨hM1, hG1, hg1⟩, ⟨t1, d1, g2.cJ c1⟩, m2, ok1, hb1, ⟨g2.pp P1, N2⟩, ⟨g2.kw kc1, g2.vK vk1, g2.kwm km1⟩, g2.cl cl1⟩) (fun h => absurd rfl h)
theorem law_watch (hI : lwI G a B μ) (hi : i + 6 ≤ L) (hL : L ≤ 3072) (hk : k + 2 ≤ 600000 ∧ n + 5504 ≤ 7302250) (K : ∀ G' μ', lwI G' a B μ' → J l mL (jZL L xs X) G' (k + 2) (n + 5504) 1301 [.float 0, .ref 0, .ref 112, .int (nI i)] [] μ') : J l mL (jZL L xs X) G k n 1199 [.float 0, .ref 0, .ref 112, .int (nI i)] [] μ := by
  obtain ⟨⟨hM, hG, hg⟩, ⟨t, d, hc⟩, hm, ok, hb, ⟨hP, hN⟩, ⟨kc, vk, km⟩, cl⟩ := hI
  refine j_aload_n dL_1199 rfl rfl ?_
  refine j_aload_nF dL_1200 rfl rfl ?_
  refine j_iload_n dL_1201 rfl rfl ?_
  refine j_iconst 1 dL_1202 rfl (by decide) ?_
  refine j_iadd dL_1203 rfl ?_
  refine j_sld dL_1204 rfl (vp6 (j := 1) hi (by decide) hL) ?_
  refine j_aload_nF dL_1205 rfl rfl ?_
  refine j_iload_n dL_1206 rfl rfl ?_
  refine j_iconst 2 dL_1207 rfl (by decide) ?_
  refine j_iadd dL_1208 rfl ?_
  refine j_sld dL_1209 rfl (vp6 (j := 2) hi (by decide) hL) ?_
  refine j_cVA (as := [.int (xs ((nI i + 1).toNatClampNeg)), .int (xs ((nI i + 2).toNatClampNeg))]) (rest := []) dL_1210 rfl vw_L_155 (hG 0 (16, 9) rfl) rfl ⟨Nat.le_of_ble_eq_true rfl, Nat.le_of_ble_eq_true rfl⟩ rfl rfl (fun _ _ => Nat.le_of_ble_eq_true rfl) tX_ok (fun _ _ _ _ _ => trivial) hk jZg_L (jSc_f (jSc_r (by omega) (jSc_r (by omega) (jSc_i jSc_0)))) (c_X11_watch hG hP hc ok hg cl (xs ((nI i + 1).toNatClampNeg)) (xs ((nI i + 2).toNatClampNeg))) ?_
  rintro _ μ1 G1 ⟨rfl, h1⟩
  have I1 := okA_I hM hg hm hb hN kc vk km ok h1
  have m1 := I1.2.2.1
  obtain ⟨⟨hM1, hG1, hg1⟩, ⟨t1, d1, c1⟩, -, ok1, hb1, ⟨P1, N1⟩, ⟨kc1, vk1, km1⟩, cl1⟩ := I1
  refine j_aload_n dL_1213 rfl rfl ?_
  refine j_aload_nF dL_1214 rfl rfl ?_
  refine j_iload_n dL_1215 rfl rfl ?_
  refine j_iconst 1 dL_1216 rfl (by decide) ?_
  refine j_iadd dL_1217 rfl ?_
  refine j_sld dL_1218 rfl (vp6 (j := 1) hi (by decide) hL) ?_
  refine j_aload_nF dL_1219 rfl rfl ?_
  refine j_iload_n dL_1220 rfl rfl ?_
  refine j_iconst 2 dL_1221 rfl (by decide) ?_
  refine j_iadd dL_1222 rfl ?_
  refine j_sld dL_1223 rfl (vp6 (j := 2) hi (by decide) hL) ?_
  refine j_cV (as := [.int (xs ((nI i + 1).toNatClampNeg)), .int (xs ((nI i + 2).toNatClampNeg))]) (rest := [.int _]) dL_1224 rfl vw_L_158 (hM1 112 (17, 80) rfl) rfl ⟨Nat.le_of_ble_eq_true rfl, Nat.le_of_ble_eq_true rfl⟩ rfl rfl (fun _ _ => Nat.le_of_ble_eq_true rfl) (c_X12_watch hM1 N1 m1 ok1 (xs ((nI i + 1).toNatClampNeg)) (xs ((nI i + 2).toNatClampNeg))) ?_
  rintro _ μ2 ⟨_, rfl, rfl, q2⟩
  obtain ⟨m2, N2, l2⟩ := mI_q m1 q2 N1
  have g2 := l2.G
  exact j_icmp_eq 1301 dL_1227 rfl (by decide) (fun _ => K G1 μ2 ⟨⟨hM1, hG1, hg1⟩, ⟨t1, d1, g2.cJ c1⟩, m2, ok1, hb1, ⟨g2.pp P1, N2⟩, ⟨g2.kw kc1, g2.vK vk1, g2.kwm km1⟩, g2.cl cl1⟩) (fun h => absurd rfl h)
end LawW
