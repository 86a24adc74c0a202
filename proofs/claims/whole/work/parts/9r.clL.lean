/-! THE CLASS reads: works of a LAW -/
def mkV (vs u : Nat → Bool) : Int64 := mkB (u 3 && vs 3) (u 4 && vs 4) (u 6 && vs 6) (u 8 && vs 8)
def vsK (μ : jM) (w : Nat) (vs : Nat → Bool) : Prop := ∀ i, i < 9 → ((μ.1 w 3 >>> (nI i &&& 31)) &&& 1 = 0 ↔ vs i = false)
def lwS (μ : jM) (w : Nat) (vs : Nat → Bool) (K : List (Nat × Nat)) (u : Nat → Bool) : Prop := μ.1 w 5 = nI K.length ∧ wkR (μ.1 (w + 3)) 0 K ∧ μ.2.1 w 0 = mkV vs u ∧ vsK μ w vs
def lwB (w : Nat) (μ : jM) : Prop := ∃ n, n ≤ 400 ∧ μ.1 w 5 = nI n
/-- what the works of a LAW at w are written into -/
def lF (w : Nat) (F : List Nat) (μ μ' : jM) : Prop := μ'.2.2 = μ.2.2 ∧ (∀ c, c ≠ 3 → (c = 11 → 5 ∉ F) → c ≠ w → c ≠ w + 3 → μ'.1 c = μ.1 c) ∧ (∀ f, f ≠ 5 → μ'.1 w f = μ.1 w f) ∧ (∀ f, f ∉ F → μ'.1 3 f = μ.1 3 f) ∧ (∀ c, c ≠ w → μ'.2.1 c = μ.2.1 c) ∧ ∀ i, i ≠ 0 → μ'.2.1 w i = μ.2.1 w i
theorem lF.refl {w : Nat} {F : List Nat} {μ : jM} : lF w F μ μ := ⟨rfl, fun _ _ _ _ _ => rfl, fun _ _ => rfl, fun _ _ => rfl, fun _ _ => rfl, fun _ _ => rfl⟩
theorem lF.trans {w : Nat} {F : List Nat} {μ μ1 μ2 : jM} (h1 : lF w F μ μ1) (h2 : lF w F μ1 μ2) : lF w F μ μ2 := ⟨h2.1.trans h1.1, fun c a b d e => (h2.2.1 c a b d e).trans (h1.2.1 c a b d e), fun f a => (h2.2.2.1 f a).trans (h1.2.2.1 f a), fun f a => (h2.2.2.2.1 f a).trans (h1.2.2.2.1 f a), fun c a => (h2.2.2.2.2.1 c a).trans (h1.2.2.2.2.1 c a), fun i a => (h2.2.2.2.2.2 i a).trans (h1.2.2.2.2.2 i a)⟩
theorem lF.mono {w : Nat} {F F' : List Nat} {μ μ' : jM} (h : lF w F μ μ') (hF : ∀ f ∈ F, f ∈ F') : lF w F' μ μ' := ⟨h.1, fun c a b => h.2.1 c a (fun z q => b z (hF 5 q)), h.2.2.1, fun f a => h.2.2.2.1 f (fun z => a (hF f z)), h.2.2.2.2⟩
theorem lF.gPP {w : Nat} {F : List Nat} {μ μ' : jM} (h : lF w F μ μ') (hP : gPP μ) : gPP μ' := gPP_of h.1 hP
theorem lF.tO {w : Nat} {F : List Nat} {μ μ' : jM} (h : lF w F μ μ') {gl : jG} {pl : Nat → Nat → Option Nat} {G : jG} {t : Nat} (ht : tO gl pl G μ t) : tO gl pl G μ' t := tO_of h.1 ht
theorem lF_3 {w : Nat} {F F' : List Nat} {μ μ' : jM} (h : cO3 [11] F [] μ μ') (hw : 79 ≤ w) (hF : ∀ f ∈ F, f ∈ F') (h5 : 5 ∈ F' := by decide) : lF w F' μ μ' := ⟨h.1, fun c a b _ _ => h.2.1 c a (by simp; exact fun z => b z h5), fun f _ => by rw [h.2.1 w (by omega) (by simp; omega)], fun f a => h.2.2.1 f (fun z => a (hF f z)), fun c _ => h.2.2.2 c (by simp), fun i _ => by rw [h.2.2.2 w (by simp)]⟩
theorem lF_30 {w : Nat} {F F' : List Nat} {μ μ' : jM} (h : cO3 [] F [] μ μ') (hw : 79 ≤ w) (hF : ∀ f ∈ F, f ∈ F') : lF w F' μ μ' := ⟨h.1, fun c a _ _ _ => h.2.1 c a (by simp), fun f _ => by rw [h.2.1 w (by omega) (by simp)], fun f a => h.2.2.1 f (fun z => a (hF f z)), fun c _ => h.2.2.2 c (by simp), fun i _ => by rw [h.2.2.2 w (by simp)]⟩
theorem lwS_3 {w : Nat} {vs u : Nat → Bool} {K : List (Nat × Nat)} {F : List Nat} {μ μ' : jM} (h : lwS μ w vs K u) (ho : cO3 [11] F [] μ μ') (hw : 79 ≤ w) : lwS μ' w vs K u := by
  unfold lwS vsK at h ⊢
  rw [ho.2.1 w (by omega) (by simp; omega), ho.2.1 (w + 3) (by omega) (by simp; omega), ho.2.2.2 w (by simp)]; exact h
theorem lwB_3 {w : Nat} {F : List Nat} {μ μ' : jM} (h : lwB w μ) (ho : cO3 [11] F [] μ μ') (hw : 79 ≤ w) : lwB w μ' := by
  unfold lwB at h ⊢
  rw [ho.2.1 w (by omega) (by simp; omega)]; exact h
theorem lF_okC {Y : List Int32} {t w : Nat} {s : Nat × Nat} {F : List Nat} {μ μ' : jM} (h : okC Y t s μ) (ho : lF w F μ μ') (hw : 79 ≤ w) (h1 : 8 ∉ F := by decide) (h2 : 9 ∉ F := by decide) (h3 : 11 ∉ F := by decide) (h4 : 12 ∉ F := by decide) : okC Y t s μ' := by
  obtain ⟨a1, a2, a3, a4, a5, a6⟩ := h
  refine ⟨?_, a2, a3, by rw [ho.2.2.2.1 8 h1]; exact a4, by rw [ho.2.2.2.1 9 h2]; exact a5, ?_⟩
  · unfold lexC tkC at a1 ⊢
    rw [ho.2.1 5 (by decide) (fun z => by cases z) (by omega) (by omega), ho.2.1 6 (by decide) (fun z => by cases z) (by omega) (by omega), ho.2.2.2.2.1 7 (by omega)]; exact a1
  · unfold sC at a6 ⊢
    rw [ho.2.2.2.1 11 h3, ho.2.2.2.1 12 h4]; exact a6
theorem lF_cB {e : pF} {w : Nat} {F : List Nat} {μ μ' : jM} (h : cB e μ) (ho : lF w F μ μ') (h1 : 8 ∉ F := by decide) (h2 : 9 ∉ F := by decide) (h3 : 10 ∉ F := by decide) : cB e μ' := by
  unfold cB at h ⊢
  rw [ho.2.2.2.1 8 h1, ho.2.2.2.1 9 h2, ho.2.2.2.1 10 h3]; exact h
theorem or_nI (a b : Nat) : nI a ||| nI b = nI (a ||| b) := by
  apply Int32.toBitVec_inj.mp
  rw [Int32.toBitVec_or]
  exact (BitVec.ofNat_or).symm
theorem wk_nI {n k : Nat} (hk : k < 8) (hn : n < 2 ^ 20) : (nI n <<< (3 &&& 31)) ||| nI k = cwk (k, n) := by
  rw [pk_shlN (3 &&& 31) 3 (by decide) (by omega), or_nI]
  unfold cwk
  have := Nat.two_pow_add_eq_or_of_lt (show k < 2 ^ 3 by omega) n
  congr 1
  show n * 8 ||| k = 8 * n + k
  rw [Nat.mul_comm n 8]
  exact this.symm
theorem wkR_add {f : Nat → Int32} {K : List (Nat × Nat)} {q : Nat × Nat} (h : wkR f 0 K) (hq : q.1 < 8 ∧ q.2 < 2 ^ 20) : wkR (upd f K.length (cwk q)) 0 (K ++ [q]) := by
  intro j x hj
  rw [Nat.zero_add]
  by_cases e : j = K.length
  · subst e
    rw [List.getElem?_append_right (Nat.le_refl _)] at hj
    simp at hj
    rw [upd_at, ← hj]; exact ⟨rfl, hq⟩
  · have hl : j < K.length := by
      have := (List.getElem?_eq_some_iff.mp hj).1
      simp at this; omega
    rw [List.getElem?_append_left hl] at hj
    rw [upd_ne e]
    have := h j x hj
    rw [Nat.zero_add] at this; exact this
section ClL
variable {l : Launch} {G : jG} {Y : List Int32} {w : Nat} {vs u : Nat → Bool}
theorem lF_law {μ μ' : jM} (h79 : 79 ≤ w) (h2 : μ'.2.2 = μ.2.2) (hc : ∀ c, c ≠ w → c ≠ w + 3 → μ'.1 c = μ.1 c) (hf : ∀ f, f ≠ 5 → μ'.1 w f = μ.1 w f) (hl : ∀ c, c ≠ w → μ'.2.1 c = μ.2.1 c) (hi : ∀ i, i ≠ 0 → μ'.2.1 w i = μ.2.1 w i) : lF w [] μ μ' := ⟨h2, fun c _ _ a b => hc c a b, hf, fun f _ => by rw [hc 3 (by omega) (by omega)], hl, hi⟩
theorem c_X2_add (hG : gGG G) {μ : jM} (hP : gPP μ) (h79 : 79 ≤ w) (hw : tO gLaw pLaw G μ w) {K : List (Nat × Nat)} (h : lwS μ w vs K u) (hl : K.length < 400) {k n : Nat} (hk : k < 8) (hn : n < 2 ^ 20) {z1 z2 : Int32} (h1 : z1 = nI k) (h2 : z2 = nI n) : jC0 l mX2_add 0 G [.ref w, .int z1, .int z2] μ (pI fun v μ' => v = nI K.length ∧ lwS μ' w vs (K ++ [(k, n)]) u ∧ lF w [] μ μ') := by
  subst h1; subst h2
  refine jC0.of' (ls := [.ref w, .int (nI k), .int (nI n), .null]) rfl rfl rfl (fun _ _ => Nat.le_of_ble_eq_true rfl) ?_
  obtain ⟨a1, a2, a3, a4⟩ := h
  have hlt : ¬ (400 : Int32) ≤ μ.1 w 5 := by rw [a1]; exact nI_ge (b := 400) hl (by decide)
  refine b_X2_add_0 hG hP hw (fun z => absurd z hlt) (fun _ => by rw [a1]; exact vp_in_nI hl (by decide)) (fun _ => ?_)
  rw [wI_ne (by omega), a1, nI_clamp (by omega), nI_inc, wk_nI hk hn]
  refine ⟨rfl, ⟨by rw [wI_at]; congr 1; simp, ?_, a3, ?_⟩, lF_law h79 rfl (fun c b3 b4 => by rw [wI_ne b3, wI_ne b4]) (fun f hf => by rw [wI_off' hf, wI_ne (by omega)]) (fun _ _ => rfl) (fun _ _ => rfl)⟩
  · rw [wI_ne (by omega), wI_eq]; exact wkR_add a2 ⟨hk, hn⟩
  · intro i hi; rw [wI_off' (by decide), wI_ne (by omega)]; exact a4 i hi
theorem d_X2_add (hG : gGG G) {μ : jM} (hP : gPP μ) (h79 : 79 ≤ w) (hw : tO gLaw pLaw G μ w) (h : lwB w μ) (z1 z2 : Int32) : jC0 l mX2_add 0 G [.ref w, .int z1, .int z2] μ (pI fun _ μ' => lwB w μ' ∧ lF w [] μ μ') := by
  refine jC0.of' (ls := [.ref w, .int z1, .int z2, .null]) rfl rfl rfl (fun _ _ => Nat.le_of_ble_eq_true rfl) ?_
  obtain ⟨n, hn, e⟩ := h
  refine b_X2_add_0 hG hP hw (fun _ => ⟨⟨n, hn, e⟩, lF.refl⟩) (fun z => ?_) (fun z => ?_)
  · rw [e] at z ⊢
    by_cases h4 : n = 400
    · exact absurd (nI_le (a := 400) (b := n) (by omega) (by omega)) z
    · exact vp_in_nI (by omega) (by decide)
  · have h4 : n < 400 := by
      by_cases h4 : n = 400
      · exact absurd (by rw [e]; exact nI_le (a := 400) (b := n) (by omega) (by omega)) z
      · omega
    refine ⟨⟨n + 1, by omega, ?_⟩, lF_law h79 rfl (fun c b3 b4 => by rw [wI_ne b3, wI_ne b4]) (fun f hf => by rw [wI_off' hf, wI_ne (by omega)]) (fun _ _ => rfl) (fun _ _ => rfl)⟩
    rw [wI_at, wI_ne (by omega), e, nI_inc]
def msk (i : Nat) : Int64 := if i = 3 then 268435456 else if i = 4 then 251658240 else if i = 6 then 16777215 else if i = 8 then (-4294967296) else 0
theorem mk_or : ∀ b3 b4 b6 b8 : Bool, mkB b3 b4 b6 b8 ||| 268435456 = mkB true b4 b6 b8 ∧ mkB b3 b4 b6 b8 ||| 251658240 = mkB b3 true b6 b8 ∧ mkB b3 b4 b6 b8 ||| 16777215 = mkB b3 b4 true b8 ∧ mkB b3 b4 b6 b8 ||| (-4294967296) = mkB b3 b4 b6 true ∧ mkB b3 b4 b6 b8 ||| 0 = mkB b3 b4 b6 b8 := by decide +kernel
def uP (u : Nat → Bool) (i : Nat) : Nat → Bool := fun j => u j || j == i
theorem mkV_or {i : Nat} (hi : i < 9) (hv : vs i = true) : mkV vs u ||| msk i = mkV vs (uP u i) := by
  obtain ⟨m3, m4, m6, m8, m0⟩ := mk_or (u 3 && vs 3) (u 4 && vs 4) (u 6 && vs 6) (u 8 && vs 8)
  unfold mkV msk uP
  have : i = 0 ∨ i = 1 ∨ i = 2 ∨ i = 3 ∨ i = 4 ∨ i = 5 ∨ i = 6 ∨ i = 7 ∨ i = 8 := by omega
  rcases this with rfl | rfl | rfl | rfl | rfl | rfl | rfl | rfl | rfl
  · simp
  · simp
  · simp
  · show mkB _ _ _ _ ||| 268435456 = mkB ((u 3 || true) && vs 3) ((u 4 || false) && vs 4) ((u 6 || false) && vs 6) ((u 8 || false) && vs 8)
    rw [m3, hv]; simp
  · show mkB _ _ _ _ ||| 251658240 = mkB ((u 3 || false) && vs 3) ((u 4 || true) && vs 4) ((u 6 || false) && vs 6) ((u 8 || false) && vs 8)
    rw [m4, hv]; simp
  · simp
  · show mkB _ _ _ _ ||| 16777215 = mkB ((u 3 || false) && vs 3) ((u 4 || false) && vs 4) ((u 6 || true) && vs 6) ((u 8 || false) && vs 8)
    rw [m6, hv]; simp
  · simp
  · show mkB _ _ _ _ ||| (-4294967296) = mkB ((u 3 || false) && vs 3) ((u 4 || false) && vs 4) ((u 6 || false) && vs 6) ((u 8 || true) && vs 8)
    rw [m8, hv]; simp
theorem c_X2_maskOf (hG : gGG G) {μ : jM} (hP : gPP μ) {i : Nat} (hi : i < 9) {z : Int32} (hz : z = nI i) : jC0 l mX2_maskOf 0 G [.int z] μ (pJ fun v μ' => v = msk i ∧ μ' = μ) := by
  subst hz
  refine jC0.of' (ls := [.int (nI i)]) rfl rfl rfl (fun _ _ => Nat.le_of_ble_eq_true rfl) ?_
  have e : ∀ {c : Nat} {y : Int32}, y = nI c → c < 2 ^ 31 → (nI i = y ↔ i = c) := fun {c y} hy hc => by rw [hy]; exact nI_eq (by omega) hc
  refine b_X2_maskOf_0 hG hP (fun z => ?_) (fun n3 z => ?_) (fun n3 n4 z => ?_) (fun n3 n4 n5 z => ?_) (fun n3 n4 n5 n6 z => ?_) (fun n3 n4 n5 n6 n7 z => ?_) (fun n3 n4 n5 n6 n7 n8 => ?_)
  · rw [e (c := 3) (y := 3) rfl (by decide)] at z; subst z; exact ⟨rfl, rfl⟩
  · rw [e (c := 4) (y := 4) rfl (by decide)] at z; subst z; exact ⟨rfl, rfl⟩
  · rw [e (c := 5) (y := 5) rfl (by decide)] at z; subst z; exact ⟨rfl, rfl⟩
  · rw [e (c := 6) (y := 6) rfl (by decide)] at z; subst z; exact ⟨rfl, rfl⟩
  · rw [e (c := 7) (y := 7) rfl (by decide)] at z; subst z; exact ⟨rfl, rfl⟩
  · rw [e (c := 8) (y := 8) rfl (by decide)] at z; subst z; exact ⟨rfl, rfl⟩
  · rw [e (c := 3) (y := 3) rfl (by decide)] at n3; rw [e (c := 4) (y := 4) rfl (by decide)] at n4; rw [e (c := 6) (y := 6) rfl (by decide)] at n6; rw [e (c := 8) (y := 8) rfl (by decide)] at n8
    refine ⟨?_, rfl⟩
    unfold msk; rw [if_neg n3, if_neg n4, if_neg n6, if_neg n8]
theorem cE_app {a b : sE} : cE vs (a ++ b) = cE vs a ++ cE vs b := by unfold cE; rw [List.map_append]
/-- a VAR: LOAD, or 0 where the LAW has none -/
theorem c_X2_addVar (hG : gGG G) {μ : jM} (hP : gPP μ) (h79 : 79 ≤ w) (hw : tO gLaw pLaw G μ w) {K : List (Nat × Nat)} (h : lwS μ w vs K u) (hl : K.length < 400) {i : Nat} (hi : i < 9) {z : Int32} (hz : z = nI i) : jC0 l mX2_addVar 1 G [.ref w, .int z] μ (pV fun μ' => lwS μ' w vs (K ++ cE vs [(1, nI i)]) (uP u i) ∧ lF w [] μ μ') := by
  subst hz
  refine jC0.of' (ls := [.ref w, .int (nI i)]) rfl rfl rfl (fun _ _ => Nat.le_of_ble_eq_true rfl) ?_
  have hvk := h.2.2.2 i hi
  have ci : (nI i).toNatClampNeg = i := nI_clamp (by omega)
  have ec : cE vs [(1, nI i)] = [if vs i then (1, i) else (0, 0)] := by unfold cE; simp [ci]
  rw [ec]
  by_cases hv : vs i = true
  · have hne : ¬ (μ.1 w 3 >>> (nI i &&& 31)) &&& 1 = 0 := fun z => by rw [hvk, hv] at z; cases z
    rw [if_pos hv]
    refine b_X2_addVar_0 (ψ1 := fun _ _ => True) hG hP hw (fun _ => c_X2_add (k := 1) (n := i) hG hP h79 hw h hl (by decide) (by omega) rfl rfl) (fun _ v μ1 h1 => ?_) (fun z => absurd z hne) (fun z => absurd z hne)
    obtain ⟨-, s1, o1⟩ := h1
    have P1 := o1.gPP hP
    refine b_X2_addVar_25 hG P1 (o1.tO hw) (c_X2_maskOf hG P1 hi rfl) (fun v2 μ2 h2 => ?_)
    obtain ⟨rfl, rfl⟩ := h2
    refine b_X2_addVar_35 hG P1 (o1.tO hw) ⟨⟨s1.1, s1.2.1, ?_, s1.2.2.2⟩, o1.trans (lF_law h79 rfl (fun _ _ _ => rfl) (fun _ _ => rfl) (fun c hc => wL_ne hc) (fun j hj => ?_))⟩
    · rw [wL_eq, updL_at, s1.2.2.1]; exact mkV_or hi hv
    · rw [wL_eq, updL_ne hj]
  · have hv : vs i = false := by simpa using hv
    have hz : (μ.1 w 3 >>> (nI i &&& 31)) &&& 1 = 0 := hvk.mpr hv
    rw [if_neg (by rw [hv]; decide)]
    refine b_X2_addVar_0 (ψ0 := fun _ _ => True) hG hP hw (fun z => absurd hz z) (fun z => absurd hz z) (fun _ => c_X2_add (k := 0) (n := 0) hG hP h79 hw h hl (by decide) (by decide) rfl rfl) (fun _ v μ1 h1 => ?_)
    obtain ⟨-, s1, o1⟩ := h1
    refine b_X2_addVar_17 hG (o1.gPP hP) ⟨⟨s1.1, s1.2.1, ?_, s1.2.2.2⟩, o1⟩
    rw [s1.2.2.1]
    unfold mkV uP
    have : ∀ j, ((u j || j == i) && vs j) = (u j && vs j) := fun j => by
      by_cases e : j = i
      · subst e; simp [hv]
      · rw [show (j == i) = false from by simpa using e, Bool.or_false]
    rw [this 3, this 4, this 6, this 8]
theorem c_X2_aim (hG : gGG G) {μ : jM} (hP : gPP μ) (h79 : 79 ≤ w) (hw : tO gLaw pLaw G μ w) {K1 K2 : List (Nat × Nat)} {n : Nat} (h : lwS μ w vs (K1 ++ (6, n) :: K2) u) (hl : (K1 ++ (6, n) :: K2).length ≤ 400) {z : Int32} (hz : z = nI K1.length) : jC0 l mX2_aim 0 G [.ref w, .int z] μ (pV fun μ' => lwS μ' w vs (K1 ++ (6, (K1 ++ (6, n) :: K2).length) :: K2) u ∧ lF w [] μ μ') := by
  subst hz
  refine jC0.of' (ls := [.ref w, .int (nI K1.length)]) rfl rfl rfl (fun _ _ => Nat.le_of_ble_eq_true rfl) ?_
  obtain ⟨a1, a2, a3, a4⟩ := h
  have hlen : (K1 ++ (6, n) :: K2).length = K1.length + 1 + K2.length := by simp; omega
  have hlt : ¬ μ.1 w 5 ≤ nI K1.length := by rw [a1]; exact nI_ge (by omega) (by omega)
  refine b_X2_aim_0 hG hP hw (fun z => absurd z (nI_pos (by omega))) (fun _ z => absurd z hlt) (fun _ _ => vp_in_nI (by omega) (by decide)) (fun _ _ => ?_)
  rw [a1, nI_clamp (by omega), show (6 : Int32) = nI 6 from rfl, wk_nI (by decide) (by omega)]
  refine ⟨⟨?_, ?_, a3, ?_⟩, lF_law h79 rfl (fun c b3 b4 => by rw [wI_ne b4]) (fun f hf => by rw [wI_ne (by omega)]) (fun _ _ => rfl) (fun _ _ => rfl)⟩
  · rw [wI_ne (by omega), a1]; congr 1; simp
  · rw [wI_eq]
    intro j x hj
    rw [Nat.zero_add]
    by_cases e : j = K1.length
    · subst e
      rw [List.getElem?_append_right (Nat.le_refl _)] at hj
      simp at hj
      rw [upd_at, ← hj]; exact ⟨by simp, by show 6 < 8; decide, by show K1.length + (K2.length + 1) < 2 ^ 20; omega⟩
    · rw [upd_ne e]
      have hj' : (K1 ++ (6, n) :: K2)[j]? = some x := by
        by_cases hlt : j < K1.length
        · rw [List.getElem?_append_left hlt] at hj ⊢; exact hj
        · rw [List.getElem?_append_right (by omega)] at hj ⊢
          obtain ⟨m, hm⟩ : ∃ m, j - K1.length = m + 1 := ⟨j - K1.length - 1, by omega⟩
          rw [hm] at hj ⊢
          simpa using hj
      have := a2 j x hj'
      rw [Nat.zero_add] at this; exact this
  · intro i hi; rw [wI_ne (by omega)]; exact a4 i hi
theorem d_X2_aim (hG : gGG G) {μ : jM} (hP : gPP μ) (h79 : 79 ≤ w) (hw : tO gLaw pLaw G μ w) (h : lwB w μ) (z : Int32) : jC0 l mX2_aim 0 G [.ref w, .int z] μ (pV fun μ' => lwB w μ' ∧ lF w [] μ μ') := by
  refine jC0.of' (ls := [.ref w, .int z]) rfl rfl rfl (fun _ _ => Nat.le_of_ble_eq_true rfl) ?_
  obtain ⟨n, hn, e⟩ := h
  refine b_X2_aim_0 hG hP hw (fun _ => ⟨⟨n, hn, e⟩, lF.refl⟩) (fun _ _ => ⟨⟨n, hn, e⟩, lF.refl⟩) (fun h0 h1 => ?_) (fun _ _ => ⟨⟨n, hn, by rw [wI_ne (by omega)]; exact e⟩, lF_law h79 rfl (fun c b3 b4 => by rw [wI_ne b4]) (fun f hf => by rw [wI_ne (by omega)]) (fun _ _ => rfl) (fun _ _ => rfl)⟩)
  obtain ⟨j, hj, rfl⟩ := nI_of h0
  rw [e] at h1
  have : j < n := by
    by_cases q : j < n
    · exact q
    · exact absurd (nI_le (by omega) hj) h1
  exact vp_in_nI (by omega) (by decide)
/-! what waits -/
def stQ (f : Nat → Int32) : List Nat → Prop
  | [] => True
  | x :: W => f W.length = kC x ∧ stQ f W
theorem stQ_upd {f : Nat → Int32} {i : Nat} {x : Int32} : ∀ (W : List Nat), W.length ≤ i → stQ f W → stQ (upd f i x) W := by
  intro W
  induction W with
  | nil => intro _ _; trivial
  | cons q W ih =>
    intro hi h
    rw [List.length_cons] at hi
    exact ⟨by rw [upd_ne (by omega)]; exact h.1, ih (by omega) h.2⟩
def rkI (x : Int32) : Int32 := if x = 42 then 2 else if x = 43 then 1 else if x = 45 then 1 else if x = 47 then 2 else 0
def wrkI (x : Int32) : Int32 := if x = 42 then 4 else if x = 43 then 2 else if x = 44 then 5 else if x = 45 then 3 else 5
theorem rkI_k : ∀ k, k < 43 → rkI (kC k) = nI (rnk k) := by decide +kernel
theorem wrkI_k : ∀ k, k < 16 → 1 ≤ rnk k → wrkI (kC k) = nI (opw k) := by decide +kernel
theorem c_X4_rankOf (hG : gGG G) {μ : jM} (hP : gPP μ) (x : Int32) : jC0 l mX4_rankOf 0 G [.int x] μ (pI fun v μ' => v = rkI x ∧ μ' = μ) := by
  refine jC0.of' (ls := [.int x]) rfl rfl rfl (fun _ _ => Nat.le_of_ble_eq_true rfl) ?_
  refine b_X4_rankOf_0 hG hP (fun z => ?_) (fun n1 z => ?_) (fun n1 n2 z => ?_) (fun n1 n2 n3 z => ?_) (fun n1 n2 n3 n4 z => ?_) (fun n1 n2 n3 n4 n5 z => ?_) (fun n1 n2 n3 n4 n5 n6 => ?_)
  · subst z; exact ⟨rfl, rfl⟩
  · subst z; exact ⟨rfl, rfl⟩
  · subst z; exact ⟨rfl, rfl⟩
  · subst z; exact ⟨rfl, rfl⟩
  · subst z; exact ⟨rfl, rfl⟩
  · subst z; exact ⟨rfl, rfl⟩
  · refine ⟨?_, rfl⟩
    unfold rkI; rw [if_neg n1, if_neg n2, if_neg n4, if_neg n6]
theorem c_X4_workOf (hG : gGG G) {μ : jM} (hP : gPP μ) (x : Int32) : jC0 l mX4_workOf 0 G [.int x] μ (pI fun v μ' => v = wrkI x ∧ μ' = μ) := by
  refine jC0.of' (ls := [.int x]) rfl rfl rfl (fun _ _ => Nat.le_of_ble_eq_true rfl) ?_
  refine b_X4_workOf_0 hG hP (fun z => ?_) (fun n1 z => ?_) (fun n1 n2 z => ?_) (fun n1 n2 n3 z => ?_) (fun n1 n2 n3 n4 => ?_)
  · subst z; exact ⟨rfl, rfl⟩
  · subst z; exact ⟨rfl, rfl⟩
  · subst z; exact ⟨rfl, rfl⟩
  · subst z; exact ⟨rfl, rfl⟩
  · refine ⟨?_, rfl⟩
    unfold wrkI; rw [if_neg n1, if_neg n2, if_neg n3, if_neg n4]
def wtC (W : List Nat) (μ : jM) : Prop := μ.1 3 5 = nI W.length ∧ stQ (μ.1 11) W
def wtB (μ : jM) : Prop := ∃ k, k ≤ 24 ∧ μ.1 3 5 = nI k
theorem c_X4_putOff (hG : gGG G) {μ : jM} (hP : gPP μ) {W : List Nat} (h : wtC W μ) (hl : W.length < 24) {k : Nat} {x : Int32} (hx : x = kC k) : jC0 l mX4_putOff 0 G [.ref 3, .int x] μ (pV fun μ' => wtC (k :: W) μ' ∧ cO3 [11] [5] [] μ μ') := by
  subst hx
  refine jC0.of' (ls := [.ref 3, .int (kC k)]) rfl rfl rfl (fun _ _ => Nat.le_of_ble_eq_true rfl) ?_
  have hlt : ¬ (24 : Int32) ≤ μ.1 3 5 := by rw [h.1]; exact nI_ge (b := 24) hl (by decide)
  refine b_X4_putOff_0 hG hP (fun z => absurd z hlt) (fun _ => by rw [h.1]; exact vp_in_nI hl (by decide)) (fun _ => ?_)
  rw [h.1, nI_clamp (by omega), nI_inc]
  refine ⟨⟨by rw [wI_at]; rfl, by rw [wI_ne (by decide), wI_at], ?_⟩, (cO3_wC (by decide) (by decide)).trans (cO3_wF (by decide))⟩
  rw [wI_ne (by decide), wI_eq]; exact stQ_upd W (Nat.le_refl _) h.2
theorem settle_loop (hG : gGG G) (h79 : 79 ≤ w) {r : Nat} (hr : r = 1 ∨ r = 2) {K0 : List (Nat × Nat)} {φ : jM → Prop} : ∀ (W : List Nat) (o : sE) (μ : jM), gPP μ → tO gLaw pLaw G μ w → (∀ x ∈ W, wop x) → wtC W μ → lwS μ w vs (K0 ++ cE vs o) u → K0.length + o.length + opc W ≤ 400 → W.length ≤ 24 → (∀ μ', wtC (pw r W o).1 μ' ∧ lwS μ' w vs (K0 ++ cE vs (pw r W o).2) u ∧ lF w [5] μ μ' → φ μ') → J l mX4_settle (jZ0 1 G (pV φ)) G 0 0 0 [.ref 3, .ref w, .int (nI r)] [] μ := by
  intro W
  induction W with
  | nil =>
    intro o μ hP hw _ hx hs _ _ K
    have h0 : μ.1 3 5 ≤ 0 := by rw [hx.1]; decide
    exact b_X4_settle_0 (ψ1 := fun _ _ => True) hG hP hw (fun _ => K μ ⟨hx, hs, lF.refl⟩) (fun h => absurd h0 h) (fun h => absurd h0 h) (fun h => absurd h0 h)
  | cons x W ih =>
    intro o μ hP hw hop hx hs hb h24 K
    rw [List.length_cons] at h24
    have hwx := hop x List.mem_cons_self
    have hn : ¬ μ.1 3 5 ≤ 0 := by rw [hx.1, List.length_cons]; exact nI_nle (by omega) (by omega)
    have e1 : μ.1 3 5 - 1 = nI W.length := by rw [hx.1, List.length_cons]; exact nI_pred _
    have ew : μ.1 11 (μ.1 3 5 - 1).toNatClampNeg = kC x := by rw [e1, nI_clamp (by omega)]; exact hx.2.1
    have x16 : x < 16 := by unfold wop at hwx; omega
    refine b_X4_settle_0 hG hP hw (fun h => absurd h hn) (fun _ => by rw [e1]; exact vp_in_nI (by omega) (by decide)) (fun _ => c_X4_rankOf hG hP _) (fun _ v μ1 h1 => ?_)
    obtain ⟨rfl, rfl⟩ := h1
    rw [ew, rkI_k x (by omega)]
    have rr : rnk x ≤ 2 := by unfold rnk; split; omega; split <;> omega
    by_cases hrx : r ≤ rnk x
    · have hlt : ¬ nI (rnk x) < nI r := nI_nlt hrx (by omega)
      have hx6 : x ≠ 6 := fun z => by subst z; unfold rnk at hrx; simp at hrx; omega
      have hopc : opc (x :: W) = opc W + 1 := opc_c hx6
      have o1 : cO3 [11] [5] [] μ1 (wI μ1 3 5 (μ1.1 3 5 - 1)) := cO3_wF (by decide)
      have P1 := o1.gPP hP
      refine b_X4_settle_21 hG hP hw (fun z => absurd z hlt) (fun _ => by rw [e1]; exact vp_in_nI (by omega) (by decide)) (fun _ => c_X4_workOf hG P1 _) (fun _ v2 μ2 h2 => ?_)
      obtain ⟨rfl, rfl⟩ := h2
      rw [ew, wrkI_k x x16 (by omega)]
      have hi := opw_in x
      refine b_X4_settle_48 hG P1 (o1.tO hw) (c_X2_add (k := opw x) (n := 0) hG P1 h79 (o1.tO hw) (lwS_3 hs o1 h79) (by rw [List.length_append, cE_len]; omega) (by omega) (by decide) rfl rfl) (fun v3 μ3 h3 => ?_)
      obtain ⟨-, s3, o3⟩ := h3
      have P3 := o3.gPP P1
      refine b_X4_settle_52 hG P3 (o3.tO (o1.tO hw)) ?_
      have ec : K0 ++ cE vs o ++ [(opw x, 0)] = K0 ++ cE vs (o ++ [(opw x, 0)]) := by
        rw [cE_app, List.append_assoc]
        congr 2
        unfold cE
        simp only [List.map_cons, List.map_nil]
        rw [if_neg (by omega), if_neg (by omega)]
      rw [ec] at s3
      refine ih (o ++ [(opw x, 0)]) μ3 P3 (o3.tO (o1.tO hw)) (fun y hy => hop y (List.mem_cons_of_mem _ hy)) ⟨?_, ?_⟩ s3 (by simp; omega) (by omega) (fun μ4 h4 => K μ4 ⟨?_, ?_, ?_⟩)
      · rw [o3.2.2.2.1 5 (by decide), wI_at]; exact e1
      · rw [o3.2.1 11 (by decide) (fun _ => by decide) (by omega) (by omega), wI_ne (by decide)]; exact hx.2.2
      · unfold pw; rw [if_pos hrx]; exact h4.1
      · unfold pw; rw [if_pos hrx]; exact h4.2.1
      · exact ((lF_3 o1 h79 (by decide)).trans (o3.mono (by decide))).trans h4.2.2
    · have hlt : nI (rnk x) < nI r := nI_lt (by omega) (by omega)
      exact b_X4_settle_21 (ψ1 := fun _ _ => True) hG hP hw (fun _ => K μ1 ⟨by unfold pw; rw [if_neg hrx]; exact hx, by unfold pw; rw [if_neg hrx]; exact hs, lF.refl⟩) (fun z => absurd hlt z) (fun z => absurd hlt z) (fun z => absurd hlt z)
theorem c_X4_settle (hG : gGG G) {μ : jM} (hP : gPP μ) (h79 : 79 ≤ w) (hw : tO gLaw pLaw G μ w) {r : Nat} (hr : r = 1 ∨ r = 2) {K0 : List (Nat × Nat)} {W : List Nat} {o : sE} (hop : ∀ x ∈ W, wop x) (hx : wtC W μ) (hs : lwS μ w vs (K0 ++ cE vs o) u) (hb : K0.length + o.length + opc W ≤ 400) (h24 : W.length ≤ 24) {z : Int32} (hz : z = nI r) : jC0 l mX4_settle 1 G [.ref 3, .ref w, .int z] μ (pV fun μ' => wtC (pw r W o).1 μ' ∧ lwS μ' w vs (K0 ++ cE vs (pw r W o).2) u ∧ lF w [5] μ μ') := by
  subst hz
  exact jC0.of' (ls := [.ref 3, .ref w, .int (nI r)]) rfl rfl rfl (fun _ _ => Nat.le_of_ble_eq_true rfl) (settle_loop hG h79 hr W o μ hP hw hop hx hs hb h24 (fun _ h => h))
theorem d_X4_settle (hG : gGG G) {μ : jM} (hP : gPP μ) (h79 : 79 ≤ w) (hw : tO gLaw pLaw G μ w) (h : lwB w μ) (hx : wtB μ) (z : Int32) : jC0 l mX4_settle 1 G [.ref 3, .ref w, .int z] μ (pV fun μ' => lwB w μ' ∧ wtB μ' ∧ lF w [5] μ μ') := by
  refine jC0.of' (ls := [.ref 3, .ref w, .int z]) rfl rfl rfl (fun _ _ => Nat.le_of_ble_eq_true rfl) ?_
  obtain ⟨k, hk, e⟩ := hx
  have loop : ∀ k, k ≤ 24 → ∀ μ1 : jM, μ1.1 3 5 = nI k → lwB w μ1 → lF w [5] μ μ1 → J l mX4_settle (jZ0 1 G (pV fun μ' => lwB w μ' ∧ wtB μ' ∧ lF w [5] μ μ')) G 0 0 0 [.ref 3, .ref w, .int z] [] μ1 := by
    intro k
    induction k with
    | zero =>
      intro _ μ1 e1 b1 o1
      have h0 : μ1.1 3 5 ≤ 0 := by rw [e1]; decide
      exact b_X4_settle_0 (ψ1 := fun _ _ => True) hG (o1.gPP hP) (o1.tO hw) (fun _ => ⟨b1, ⟨0, by decide, e1⟩, o1⟩) (fun h => absurd h0 h) (fun h => absurd h0 h) (fun h => absurd h0 h)
    | succ k ih =>
      intro hk μ1 e1 b1 o1
      have P1 := o1.gPP hP
      have hn : ¬ μ1.1 3 5 ≤ 0 := by rw [e1]; exact nI_nle (by omega) (by omega)
      have e2 : μ1.1 3 5 - 1 = nI k := by rw [e1]; exact nI_pred _
      refine b_X4_settle_0 hG P1 (o1.tO hw) (fun h => absurd h hn) (fun _ => by rw [e2]; exact vp_in_nI (by omega) (by decide)) (fun _ => c_X4_rankOf hG P1 _) (fun _ v μ2 h2 => ?_)
      obtain ⟨rfl, rfl⟩ := h2
      have q1 : cO3 [11] [5] [] μ2 (wI μ2 3 5 (μ2.1 3 5 - 1)) := cO3_wF (by decide)
      have Q1 := q1.gPP P1
      refine b_X4_settle_21 hG P1 (o1.tO hw) (fun _ => ⟨b1, ⟨k + 1, hk, e1⟩, o1⟩) (fun _ => by rw [e2]; exact vp_in_nI (by omega) (by decide)) (fun _ => c_X4_workOf hG Q1 _) (fun _ v2 μ3 h3 => ?_)
      obtain ⟨rfl, rfl⟩ := h3
      refine b_X4_settle_48 hG Q1 (q1.tO (o1.tO hw)) (d_X2_add hG Q1 h79 (q1.tO (o1.tO hw)) (lwB_3 b1 q1 h79) _ _) (fun v3 μ4 h4 => ?_)
      obtain ⟨b4, o4⟩ := h4
      have P4 := o4.gPP Q1
      refine b_X4_settle_52 hG P4 (o4.tO (q1.tO (o1.tO hw))) (ih (by omega) μ4 ?_ b4 ((o1.trans (lF_3 q1 h79 (by decide))).trans (o4.mono (by decide))))
      rw [o4.2.2.2.1 5 (by decide), wI_at]; exact e2
  exact loop k hk μ e h lF.refl
end ClL
