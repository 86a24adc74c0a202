/-! THE REFERENCE cuts its text -/
def byO (Y : List Int32) : Prop := ∀ b ∈ Y, ∃ m, m < 256 ∧ b = nI (4294967168 + m)
def txtM (μ : jM) (Y : List Int32) : Prop := μ.1 112 4 = nI Y.length ∧ Y.length ≤ 2000 ∧ ∀ (i : Nat) (b : Int32), Y[i]? = some b → μ.1 114 i = b
def kwM (μ : jM) : Prop := ∀ i, i < 23 → ∀ w, wrds[i]? = some w → μ.2.1 119 i = lN (en 27 w)
def tkM (μ : jM) (Y : List Int32) (i : Nat) : Prop := μ.1 115 i = nI (kd Y i) ∧ μ.1 116 i = nI (pl Y i) ∧ (kd Y i = 2 → μ.1 117 i = nI (vl Y i)) ∧ (kd Y i = 1 → μ.2.1 118 i = lN (en 27 (nm Y i)))
def lexM (μ : jM) (Y : List Int32) : Prop := ∀ i, i ≤ 400 → gd Y i → tkM μ Y i
def mO3 (C F L : List Nat) (μ μ' : jM) : Prop := μ'.2.2 = μ.2.2 ∧ (∀ c, c ≠ 112 → c ∉ C → μ'.1 c = μ.1 c) ∧ (∀ f, f ∉ F → μ'.1 112 f = μ.1 112 f) ∧ ∀ c, c ∉ L → μ'.2.1 c = μ.2.1 c
theorem mO3.refl {C F L : List Nat} {μ : jM} : mO3 C F L μ μ := ⟨rfl, fun _ _ _ => rfl, fun _ _ => rfl, fun _ _ => rfl⟩
theorem mO3.trans {C F L : List Nat} {μ μ1 μ2 : jM} (h1 : mO3 C F L μ μ1) (h2 : mO3 C F L μ1 μ2) : mO3 C F L μ μ2 := ⟨h2.1.trans h1.1, fun c a b => (h2.2.1 c a b).trans (h1.2.1 c a b), fun f a => (h2.2.2.1 f a).trans (h1.2.2.1 f a), fun c a => (h2.2.2.2 c a).trans (h1.2.2.2 c a)⟩
theorem mO3.mono {C F L C' F' L' : List Nat} {μ μ' : jM} (h : mO3 C F L μ μ') (hc : ∀ c ∈ C, c ∈ C') (hf : ∀ f ∈ F, f ∈ F') (hl : ∀ c ∈ L, c ∈ L') : mO3 C' F' L' μ μ' := ⟨h.1, fun c a b => h.2.1 c a (fun z => b (hc c z)), fun f a => h.2.2.1 f (fun z => a (hf f z)), fun c a => h.2.2.2 c (fun z => a (hl c z))⟩
theorem mO3_wC {C F L : List Nat} {μ : jM} {c i : Nat} {x : Int32} (h : c ≠ 112) (hc : c ∈ C) : mO3 C F L μ (wI μ c i x) := ⟨rfl, fun a _ hb => wI_ne (fun z => hb (z ▸ hc)), fun _ _ => by rw [wI_ne (fun z => h z.symm)], fun _ _ => rfl⟩
theorem mO3_wF {C F L : List Nat} {μ : jM} {i : Nat} {x : Int32} (hi : i ∈ F) : mO3 C F L μ (wI μ 112 i x) := ⟨rfl, fun a h1 _ => wI_ne h1, fun f hf => wI_off' (fun z => hf (by rw [z]; exact hi)), fun _ _ => rfl⟩
theorem mO3_wL {C F L : List Nat} {μ : jM} {c i : Nat} {x : Int64} (hc : c ∈ L) : mO3 C F L μ (wL μ c i x) := ⟨rfl, fun _ _ _ => rfl, fun _ _ => rfl, fun a ha => wL_ne (fun z => ha (z ▸ hc))⟩
theorem mO3.gNN {C F L : List Nat} {μ μ' : jM} (h : mO3 C F L μ μ') (hP : gNN μ) : gNN μ' := gNN_of h.1 hP
theorem mO3.c {C F L : List Nat} {μ μ' : jM} (h : mO3 C F L μ μ') (c : Nat) (h1 : c ≠ 112 := by decide) (h2 : c ∉ C := by decide) : μ'.1 c = μ.1 c := h.2.1 c h1 h2
theorem mO3.f {C F L : List Nat} {μ μ' : jM} (h : mO3 C F L μ μ') (f : Nat) (h1 : f ∉ F := by decide) : μ'.1 112 f = μ.1 112 f := h.2.2.1 f h1
theorem mO3.g {C F L : List Nat} {μ μ' : jM} (h : mO3 C F L μ μ') (c : Nat) (h1 : c ∉ L := by decide) : μ'.2.1 c = μ.2.1 c := h.2.2.2 c h1
theorem by_255 : ∀ m, m < 256 → (isL (nI (4294967168 + m) &&& 255) = isL (nI (4294967168 + m)) ∧ isDg (nI (4294967168 + m) &&& 255) = isDg (nI (4294967168 + m)) ∧ isBl (nI (4294967168 + m) &&& 255) = isBl (nI (4294967168 + m)) ∧ sgn (nI (4294967168 + m) &&& 255) = sgn (nI (4294967168 + m))) ∧ (isL (nI (4294967168 + m)) = true ∨ isDg (nI (4294967168 + m)) = true → nI (4294967168 + m) &&& 255 = nI (4294967168 + m)) := by decide +kernel
theorem yb_by {Y : List Int32} (h : byO Y) (i : Nat) : (isL (yb Y i &&& 255) = isL (yb Y i) ∧ isDg (yb Y i &&& 255) = isDg (yb Y i) ∧ isBl (yb Y i &&& 255) = isBl (yb Y i) ∧ sgn (yb Y i &&& 255) = sgn (yb Y i)) ∧ (isL (yb Y i) = true ∨ isDg (yb Y i) = true → yb Y i &&& 255 = yb Y i) := by
  have : ∃ m, m < 256 ∧ yb Y i = nI (4294967168 + m) := by
    by_cases hi : i < Y.length
    · have e : yb Y i = Y[i] := by unfold yb; rw [List.getElem?_eq_getElem hi]; rfl
      rw [e]; exact h _ (List.getElem_mem hi)
    · exact ⟨128, by decide, by rw [yb_out hi]; decide⟩
  obtain ⟨m, hm, e⟩ := this
  rw [e]; exact by_255 m hm
def tokW (μ : jM) (n : Nat) (k w v : Int32) (x : Int64) : jM := wI (wL (wI (wI (wI μ 115 n k) 116 n w) 117 n v) 118 n x) 112 10 (nI (n + 1))
theorem tok_off {μ : jM} {n : Nat} {k w v : Int32} {x : Int64} : mO3 [115, 116, 117] [10] [118] μ (tokW μ n k w v x) := by
  refine mO3.trans (μ1 := wI μ 115 n k) (mO3_wC (by decide) (by decide)) (mO3.trans (μ1 := wI (wI μ 115 n k) 116 n w) (mO3_wC (by decide) (by decide)) (mO3.trans (μ1 := wI (wI (wI μ 115 n k) 116 n w) 117 n v) (mO3_wC (by decide) (by decide)) (mO3.trans (μ1 := wL (wI (wI (wI μ 115 n k) 116 n w) 117 n v) 118 n x) (mO3_wL (by decide)) (mO3_wF (by decide)))))
theorem tok_row {μ : jM} {Y : List Int32} {n : Nat} {v : Int32} {x : Int64} (h : ∀ j, j < n → tkM μ Y j) (h2 : tkK Y (pl Y n) = 2 → v = nI (dvA 0 (run isDg Y (pl Y n)))) (h1 : tkK Y (pl Y n) = 1 → x = lN (en 27 ((run isL Y (pl Y n)).map lv))) : ∀ j, j < n + 1 → tkM (tokW μ n (nI (tkK Y (pl Y n))) (nI (pl Y n)) v x) Y j := by
  intro j hj
  have a5 : (tokW μ n (nI (tkK Y (pl Y n))) (nI (pl Y n)) v x).1 115 = upd (μ.1 115) n (nI (tkK Y (pl Y n))) := by
    unfold tokW; rw [wI_ne (by decide), wL_1, wI_ne (by decide), wI_ne (by decide), wI_eq]
  have a6 : (tokW μ n (nI (tkK Y (pl Y n))) (nI (pl Y n)) v x).1 116 = upd (μ.1 116) n (nI (pl Y n)) := by
    unfold tokW; rw [wI_ne (by decide), wL_1, wI_ne (by decide), wI_eq, wI_ne (by decide)]
  have a7 : (tokW μ n (nI (tkK Y (pl Y n))) (nI (pl Y n)) v x).1 117 = upd (μ.1 117) n v := by
    unfold tokW; rw [wI_ne (by decide), wL_1, wI_eq, wI_ne (by decide), wI_ne (by decide)]
  have a8 : (tokW μ n (nI (tkK Y (pl Y n))) (nI (pl Y n)) v x).2.1 118 = vp_updL (μ.2.1 118) n x := by
    unfold tokW; show (wL _ 118 n x).2.1 118 = _; rw [wL_eq]; rfl
  unfold tkM
  rw [a5, a6, a7, a8]
  by_cases e : j = n
  · subst e
    rw [upd_at, upd_at, upd_at, updL_at]
    exact ⟨rfl, rfl, h2, h1⟩
  · rw [upd_ne e, upd_ne e, upd_ne e, updL_ne e]
    exact h j (by omega)
section LexM
variable {l : Launch} {G : jG}
theorem c_X12_byteAt (hG : gMM G) {μ : jM} (hP : gNN μ) {Y : List Int32} (ht : txtM μ Y) {x : Int32} {i : Nat} (hx : x = nI i) (hi : i < 2 ^ 31) : jC0 l mX12_byteAt 0 G [.ref 112, .int x] μ (pI fun v μ' => v = yb Y i &&& 255 ∧ μ' = μ) := by
  subst hx
  refine jC0.of' (ls := [.ref 112, .int (nI i)]) rfl rfl rfl (fun _ _ => Nat.le_of_ble_eq_true rfl) ?_
  obtain ⟨h1, h2, h3⟩ := ht
  by_cases hl : i < Y.length
  · have hlt : ¬ μ.1 112 4 ≤ nI i := by rw [h1]; exact nI_ge hl (by omega)
    refine b_X12_byteAt_0 hG hP (fun h => absurd h hlt) (fun _ => vp_in_nI (by omega) (by decide)) (fun _ => ⟨?_, rfl⟩)
    rw [nI_clamp hi, h3 i _ (yb_of hl)]
  · have hle : μ.1 112 4 ≤ nI i := by rw [h1]; exact nI_le (by omega) hi
    refine b_X12_byteAt_0 hG hP (fun _ => ⟨?_, rfl⟩) (fun h => absurd hle h) (fun h => absurd hle h)
    rw [yb_out hl]; rfl
theorem c_X12_isLetter (hG : gMM G) {μ : jM} (hP : gNN μ) (x : Int32) : jC0 l mX12_isLetter 0 G [.int x] μ (pI fun v μ' => v = b01 (isL x) ∧ μ' = μ) := by
  refine jC0.of' (ls := [.int x]) rfl rfl rfl (fun _ _ => Nat.le_of_ble_eq_true rfl) ?_
  refine b_X12_isLetter_0 hG hP ?_ ?_ ?_
  · intro h; refine ⟨?_, rfl⟩; unfold isL; simp [h, b01]
  · intro h1 h2; refine ⟨?_, rfl⟩; unfold isL; rw [decide_eq_true h1, decide_eq_false (fun z => z h2)]; rfl
  · intro h1 h2; refine ⟨?_, rfl⟩; unfold isL; rw [decide_eq_true h1, decide_eq_true h2]; rfl
theorem c_X12_isDigit (hG : gMM G) {μ : jM} (hP : gNN μ) (x : Int32) : jC0 l mX12_isDigit 0 G [.int x] μ (pI fun v μ' => v = b01 (isDg x) ∧ μ' = μ) := by
  refine jC0.of' (ls := [.int x]) rfl rfl rfl (fun _ _ => Nat.le_of_ble_eq_true rfl) ?_
  refine b_X12_isDigit_0 hG hP ?_ ?_ ?_
  · intro h; refine ⟨?_, rfl⟩; unfold isDg; simp [h, b01]
  · intro h1 h2; refine ⟨?_, rfl⟩; unfold isDg; rw [decide_eq_true h1, decide_eq_false (fun z => z h2)]; rfl
  · intro h1 h2; refine ⟨?_, rfl⟩; unfold isDg; rw [decide_eq_true h1, decide_eq_true h2]; rfl
theorem c_X12_appends (hG : gMM G) {μ : jM} (hP : gNN μ) (a : Nat) (x : Int32) (hx : isL x = true) : jC0 l mX12_appends 0 G [.long (lN a), .int x] μ (pJ fun v μ' => v = lN (a * 27 + lv x) ∧ μ' = μ) := by
  refine jC0.of' (ls := [.long (lN a), .null, .int x]) rfl rfl rfl (fun _ _ => Nat.le_of_ble_eq_true rfl) ?_
  refine b_X12_appends_0 hG hP (fun _ => ⟨?_, rfl⟩) (fun h => by rw [h] at hx; cases hx)
  rw [lv_64 hx, show (27 : Int64) = lN 27 from rfl, lN_mul, lN_add, Nat.mul_comm]
theorem c_X12_token (hG : gMM G) {μ : jM} (hP : gNN μ) {n : Nat} (hn : μ.1 112 10 = nI n) (h4 : n ≤ 400) (k w v : Int32) (x : Int64) : jC0 l mX12_token 0 G [.ref 112, .int k, .int w, .int v, .long x] μ (pV fun μ' => μ' = tokW μ n k w v x) := by
  refine jC0.of' (ls := [.ref 112, .int k, .int w, .int v, .long x, .null]) rfl rfl rfl (fun _ _ => Nat.le_of_ble_eq_true rfl) ?_
  refine b_X12_token_0 hG hP (by rw [hn]; exact vp_in_nI (by omega) (by decide)) ?_
  rw [hn, nI_clamp (by omega), nI_inc]; rfl
theorem c_X12_sign (hG : gMM G) {μ : jM} (hP : gNN μ) {n : Nat} (hn : μ.1 112 10 = nI n) (h4 : n ≤ 400) (i c d : Int32) : jC0 l mX12_sign 1 G [.ref 112, .int i, .int c, .int d] μ (pI fun v μ' => v = 1 ∧ μ' = tokW μ n (nI (sgn c)) i 0 0) := by
  refine jC0.of' (ls := [.ref 112, .int i, .int c, .int d, .null]) rfl rfl rfl (fun _ _ => Nat.le_of_ble_eq_true rfl) ?_
  have e95 : ∀ k : Int32, k = nI (sgn c) → J l mX12_sign (jZ0 1 G (pI fun v μ' => v = 1 ∧ μ' = tokW μ n (nI (sgn c)) i 0 0)) G 0 0 95 [.ref 112, .int i, .null, .null, .int k] [] μ := fun k hk => by
    refine b_X12_sign_95 hG hP (c_X12_token hG hP hn h4 _ _ _ _) (fun μ' h => ?_)
    subst h
    exact b_X12_sign_104 hG (tok_off.gNN hP) ⟨rfl, by rw [hk]⟩
  have e43 : ∀ k : Int32, (¬ c = 43 → ¬ c = 45 → ¬ c = 42 → ¬ c = 47 → ¬ c = 60 → k = nI (sgn c)) → J l mX12_sign (jZ0 1 G (pI fun v μ' => v = 1 ∧ μ' = tokW μ n (nI (sgn c)) i 0 0)) G 0 0 43 [.ref 112, .int i, .int c, .null, .null] [.int k] μ := fun k hk => by
    have e85 : ∀ k : Int32, (¬ c = 60 → k = nI (sgn c)) → J l mX12_sign (jZ0 1 G (pI fun v μ' => v = 1 ∧ μ' = tokW μ n (nI (sgn c)) i 0 0)) G 0 0 85 [.ref 112, .int i, .int c, .null, .int k] [] μ := fun k hk =>
      b_X12_sign_85 hG hP (fun h => e95 _ (hk h)) (fun h => e95 _ (by rw [h]; rfl))
    have e75 : ∀ k : Int32, (¬ c = 47 → ¬ c = 60 → k = nI (sgn c)) → J l mX12_sign (jZ0 1 G (pI fun v μ' => v = 1 ∧ μ' = tokW μ n (nI (sgn c)) i 0 0)) G 0 0 75 [.ref 112, .int i, .int c, .null, .int k] [] μ := fun k hk =>
      b_X12_sign_75 hG hP (fun h => e85 _ (hk h)) (fun h => e85 _ (fun _ => by rw [h]; rfl))
    have e65 : ∀ k : Int32, (¬ c = 42 → ¬ c = 47 → ¬ c = 60 → k = nI (sgn c)) → J l mX12_sign (jZ0 1 G (pI fun v μ' => v = 1 ∧ μ' = tokW μ n (nI (sgn c)) i 0 0)) G 0 0 65 [.ref 112, .int i, .int c, .null, .int k] [] μ := fun k hk =>
      b_X12_sign_65 hG hP (fun h => e75 _ (hk h)) (fun h => e75 _ (fun _ _ => by rw [h]; rfl))
    have e55 : ∀ k : Int32, (¬ c = 45 → ¬ c = 42 → ¬ c = 47 → ¬ c = 60 → k = nI (sgn c)) → J l mX12_sign (jZ0 1 G (pI fun v μ' => v = 1 ∧ μ' = tokW μ n (nI (sgn c)) i 0 0)) G 0 0 55 [.ref 112, .int i, .int c, .null, .int k] [] μ := fun k hk =>
      b_X12_sign_55 hG hP (fun h => e65 _ (hk h)) (fun h => e65 _ (fun _ _ _ => by rw [h]; rfl))
    exact b_X12_sign_43 hG hP (fun h => e55 _ (hk h)) (fun h => e55 _ (fun _ _ _ _ => by rw [h]; rfl))
  refine b_X12_sign_0 hG hP (fun h1 h2 h3 h4 => e43 _ (fun h5 h6 h7 h8 h9 => ?_)) (fun _ _ _ h => e43 _ (fun _ _ _ _ _ => by rw [h]; rfl)) (fun _ _ h => e43 _ (fun _ _ _ _ _ => by rw [h]; rfl)) (fun _ h => e43 _ (fun _ _ _ _ _ => by rw [h]; rfl)) (fun h => e43 _ (fun _ _ _ _ _ => by rw [h]; rfl))
  unfold sgn
  rw [if_neg h1, if_neg h2, if_neg h3, if_neg h4, if_neg h5, if_neg h6, if_neg h7, if_neg h8, if_neg h9]; rfl
theorem c_X12_cut (hG : gMM G) {μ : jM} (hP : gNN μ) {Y : List Int32} (ht : txtM μ Y) (hk : kwM μ) (hb : byO Y) : jC0 l mX12_cut 2 G [.ref 112] μ (pV fun μ' => lexM μ' Y ∧ mO3 [115, 116, 117] [10] [118] μ μ') := by
  refine jC0.of' (ls := [.ref 112, .null, .null, .null, .null, .null, .null, .null]) rfl rfl rfl (fun _ _ => Nat.le_of_ble_eq_true rfl) ?_
  have h2 := ht.2.1
  refine b_X12_cut_0 hG hP ?_
  obtain ⟨φ, eφ⟩ : ∃ φ : jM → Prop, φ = (fun μ' => lexM μ' Y ∧ mO3 [115, 116, 117] [10] [118] μ μ') := ⟨_, rfl⟩
  rw [← eφ]
  have loop : ∀ (q n : Nat), n + q = 401 → ∀ (m i : Nat) (μ1 : jM), i + m = Y.length → bl Y i = pl Y n → μ1.1 112 10 = nI n → (∀ j, j < n → tkM μ1 Y j) → mO3 [115, 116, 117] [10] [118] μ μ1 → J l mX12_cut (jZ0 2 G (pV φ)) G 0 0 7 [.ref 112, .int (nI i), .null, .null, .null, .null, .null, .null] [] μ1 := by
    intro q
    induction q with
    | zero =>
      intro n hq m i μ1 hm hbl hn hrow ho
      have hlt : (400 : Int32) < μ1.1 112 10 := by rw [hn, i32_lt, nI_toInt (by omega)]; have : (400 : Int32).toInt = 400 := rfl; omega
      refine b_X12_cut_7 (ψ1 := fun _ _ => True) hG (ho.gNN hP) (fun _ => ?_) (fun h => absurd hlt h) (fun h => absurd hlt h)
      rw [eφ]
      exact ⟨fun j hj _ => hrow j (by omega), ho⟩
    | succ q ihq =>
      intro n hq m
      induction m with
      | zero =>
        intro i μ1 hm hbl hn hrow ho
        have P1 := ho.gNN hP
        have hge : ¬ (400 : Int32) < μ1.1 112 10 := by rw [hn, i32_lt, nI_toInt (by omega)]; have : (400 : Int32).toInt = 400 := rfl; omega
        have t1 : txtM μ1 Y := by unfold txtM at ht ⊢; rw [ho.f 4, ho.c 114]; exact ht
        have hi : ¬ nI i < μ1.1 112 4 := by rw [t1.1, i32_lt, nI_toInt (by omega), nI_toInt (by omega)]; omega
        refine b_X12_cut_7 hG P1 (fun h => absurd h hge) (fun _ => c_X12_byteAt hG P1 t1 rfl (by omega)) (fun _ v μ' h => ?_)
        obtain ⟨rfl, rfl⟩ := h
        refine b_X12_cut_22 (ψ3 := fun _ _ => True) hG P1 (fun h => absurd h hi) (fun h => absurd h hi) (fun h => absurd h hi) (fun h => absurd h hi) (fun h => absurd h hi) (fun h => absurd h hi) (fun _ => c_X12_token hG P1 hn (by omega) _ _ _ _) (fun _ μ' h => ?_)
        subst h
        have ei : pl Y n = i := by rw [← hbl]; unfold bl; rw [run_n (by omega)]; rfl
        have eK : tkK Y (pl Y n) = 0 := by unfold tkK; rw [if_neg (by omega)]
        have row := tok_row (μ := μ') (Y := Y) (n := n) (v := 0) (x := 0) hrow (fun h => by rw [eK] at h; cases h) (fun h => by rw [eK] at h; cases h)
        rw [eK, ei] at row
        rw [t1.1, show Y.length = i by omega]
        refine b_X12_cut_42 hG (tok_off.gNN P1) ?_
        rw [eφ]
        refine ⟨fun j hj hg => row j ?_, ho.trans tok_off⟩
        refine Nat.lt_of_not_le (fun hle => ?_)
        exact (hg n (by omega)).1 eK
      | succ m ihm =>
        intro i μ1 hm hbl hn hrow ho
        have P1 := ho.gNN hP
        have hge : ¬ (400 : Int32) < μ1.1 112 10 := by rw [hn, i32_lt, nI_toInt (by omega)]; have : (400 : Int32).toInt = 400 := rfl; omega
        have t1 : txtM μ1 Y := by unfold txtM at ht ⊢; rw [ho.f 4, ho.c 114]; exact ht
        have k1 : kwM μ1 := fun j hj w hw => by rw [ho.g 119]; exact hk j hj w hw
        have hi : nI i < μ1.1 112 4 := by rw [t1.1, i32_lt, nI_toInt (by omega), nI_toInt (by omega)]; omega
        have hil : i < Y.length := by omega
        obtain ⟨⟨aL, aD, aB, aS⟩, aE⟩ := yb_by hb i
        refine b_X12_cut_7 hG P1 (fun h => absurd h hge) (fun _ => c_X12_byteAt hG P1 t1 rfl (by omega)) (fun _ v μ' h => ?_)
        obtain ⟨rfl, rfl⟩ := h
        have blank : isBl (yb Y i &&& 255) = true → J l mX12_cut (jZ0 2 G (pV φ)) G 0 0 7 [.ref 112, .int (nI i + 1), .null, .null, .null, .null, .null, .null] [] μ' := fun hB => by
          rw [aB] at hB
          rw [nI_inc]
          exact ihm (i + 1) μ' (by omega) (by rw [← hbl]; unfold bl; rw [run_s hil hB, List.length_cons]; omega) hn hrow ho
        by_cases hB : isBl (yb Y i &&& 255) = true
        · refine b_X12_cut_22 (ψ3 := fun _ _ => True) (ψ5 := fun _ => True) hG P1 (fun _ _ => blank hB) (fun _ _ _ => blank hB) (fun _ _ _ _ => blank hB) ?_ ?_ (fun _ _ _ _ _ => blank hB) (fun h => absurd hi h) (fun h => absurd hi h)
          · intro _ h1 h2 h3 h4; exfalso; unfold isBl at hB; simp [h1, h2, h3, h4] at hB
          · intro _ h1 h2 h3 h4; exfalso; unfold isBl at hB; simp [h1, h2, h3, h4] at hB
        · have hB' : ¬ isBl (yb Y i) = true := by rw [← aB]; exact hB
          have ei : pl Y n = i := by rw [← hbl]; unfold bl; rw [run_n (fun z => hB' z.2)]; rfl
          have next : ∀ (v : Int32) (x : Int64) (s : Nat), (tkK Y i = 2 → v = nI (dvA 0 (run isDg Y i))) → (tkK Y i = 1 → x = lN (en 27 ((run isL Y i).map lv))) → s = tkN Y i → J l mX12_cut (jZ0 2 G (pV φ)) G 0 0 7 [.ref 112, .int (nI i + nI s), .null, .null, .null, .null, .null, .null] [] (tokW μ' n (nI (tkK Y i)) (nI i) v x) := fun v x s hv hx hs => by
            have ep : pos Y (n + 1) = i + s := by show bl Y (pos Y n) + tkN Y (bl Y (pos Y n)) = _; rw [hs, ← ei]; rfl
            rw [nI_add, ← ep]
            have row := tok_row (μ := μ') (Y := Y) (n := n) (v := v) (x := x) hrow (by rw [ei]; exact hv) (by rw [ei]; exact hx)
            rw [ei] at row
            refine ihq (n + 1) (by omega) (Y.length - pos Y (n + 1)) (pos Y (n + 1)) _ (by have := pos_le (Y := Y) (n + 1); omega) rfl ?_ row (ho.trans tok_off)
            unfold tokW; rw [wI_at]
          refine b_X12_cut_22 (ψ5 := fun _ => True) hG P1 ?_ ?_ ?_ (fun _ _ _ _ _ => c_X12_isLetter hG P1 _) (fun _ _ _ _ _ v μ2 h => ?_) ?_ (fun h => absurd hi h) (fun h => absurd hi h)
          · intro _ h; exfalso; rw [h] at hB; exact hB rfl
          · intro _ _ h; exfalso; rw [h] at hB; exact hB rfl
          · intro _ _ _ h; exfalso; rw [h] at hB; exact hB rfl
          · obtain ⟨rfl, rfl⟩ := h
            rw [aL]
            by_cases hL : isL (yb Y i) = true
            · have h0 : ¬ b01 (isL (yb Y i)) = 0 := fun z => by rw [b01_0, hL] at z; cases z
              refine b_X12_cut_77 (ψ0 := fun _ _ => True) hG P1 (fun h => absurd h h0) (fun h => absurd h h0) (fun _ => ?_)
              have hle := run_le (P := isL) (show i ≤ Y.length by omega)
              have eN : tkN Y i = (run isL Y i).length := by unfold tkN; rw [if_pos hil, if_pos hL]
              have eK : tkK Y i = if 8 < (run isL Y i).length then 3 else kwd ((run isL Y i).map lv) := by unfold tkK; rw [if_pos hil, if_pos hL]
              have ne2 : tkK Y i ≠ 2 := fun h => by
                rw [eK] at h
                split at h
                · cases h
                · rcases kwU_in ((run isL Y i).map lv) 23 (by decide) with h3 | h3 <;> (unfold kwd at h; omega)
              have nx : ∀ k : Int32, k = nI (tkK Y i) → ∀ a : Nat, a = en 27 (((run isL Y i).map lv).take 8) → jC0 l mX12_token 0 G [.ref 112, .int k, .int (nI i), .int 0, .long (lN a)] μ2 (pV fun μ' => μ' = tokW μ2 n (nI (tkK Y i)) (nI i) 0 (lN (en 27 (((run isL Y i).map lv).take 8)))) := fun k hk a ha => by
                rw [hk, ha]; exact c_X12_token hG P1 hn (by omega) _ _ _ _
              have nx2 : ∀ j, j = (run isL Y i).length → ∀ μ3, (μ3 = tokW μ2 n (nI (tkK Y i)) (nI i) 0 (lN (en 27 (((run isL Y i).map lv).take 8)))) → J l mX12_cut (jZ0 2 G (pV φ)) G 0 0 189 [.ref 112, .int (nI i), .null, .int (nI j), .null, .null, .null, .null] [] μ3 := fun j hj μ3 h => by
                subst h
                refine b_X12_cut_189 hG (tok_off.gNN P1) ?_
                refine next _ _ _ (fun h => absurd h ne2) (fun h => ?_) (by rw [hj, eN])
                rw [List.take_of_length_le]
                rw [List.length_map]
                rw [eK] at h
                split at h
                · cases h
                · omega
              have i7 : ∀ j, j < 2 ^ 31 → ((nI j ≤ 8 ↔ j ≤ 8) ∧ (7 < nI j ↔ 7 < j) ∧ (8 ≤ nI j ↔ 8 ≤ j)) := fun j hj => by
                rw [i32_le, i32_lt, i32_le, nI_toInt hj]
                have e8 : (8 : Int32).toInt = 8 := rfl
                have e7 : (7 : Int32).toInt = 7 := rfl
                omega
              have e146 : (run isL Y i).length ≤ 7 → ∀ j a, j = (run isL Y i).length → a = en 27 (((run isL Y i).map lv).take 8) → ∀ k, k ≤ 23 → J l mX12_cut (jZ0 2 G (pV φ)) G 0 0 146 [.ref 112, .int (nI i), .null, .int (nI j), .long (lN a), .null, .int (nI (kwU ((run isL Y i).map lv) k)), .int (nI k)] [] μ2 := fun h7 j a hj ha => by
                have okw : okW ((run isL Y i).map lv) := ⟨by rw [List.length_map]; omega, fun d hd => by
                  obtain ⟨b, hb, rfl⟩ := List.mem_map.mp hd
                  have := lv_in (run_all b hb)
                  exact ⟨this.1, this.2.1⟩⟩
                have ha' : a = en 27 ((run isL Y i).map lv) := by rw [ha, List.take_of_length_le (by rw [List.length_map]; omega)]
                refine up_loop 23 ?_ (fun k hk ihk => ?_)
                · have hle : (23 : Int32) ≤ nI 23 := by decide
                  refine b_X12_cut_146 hG P1 (fun _ => nx _ ?_ a ha) (fun _ => nx2 j hj) (fun h => absurd hle h) (fun h => absurd hle h) (fun h => absurd hle h)
                  rw [eK, if_neg (by omega)]; rfl
                · have hlt : ¬ (23 : Int32) ≤ nI k := nI_ge (b := 23) (by omega) (by omega)
                  obtain ⟨v, hv, okv, -⟩ := wrds_ok k hk
                  have e1 : μ2.2.1 119 (nI k).toNatClampNeg = lN (en 27 v) := by rw [nI_clamp (by omega)]; exact k1 k hk v hv
                  have eU : kwU ((run isL Y i).map lv) (k + 1) = if wrds[k]? = some ((run isL Y i).map lv) then 20 + k else kwU ((run isL Y i).map lv) k := rfl
                  refine b_X12_cut_146 (ψ0 := fun _ => True) hG P1 (fun h => absurd h hlt) (fun h => absurd h hlt) (fun _ => vp_in_nI hk (by decide)) (fun _ h => ?_) (fun _ h => ?_)
                  · rw [e1, lgc0, ha', nm_inj (by decide) (by decide) okv okw] at h
                    rw [if_neg (fun z => by rw [hv] at z; exact h (Option.some.inj z))] at eU
                    rw [nI_inc, ← eU]; exact ihk
                  · rw [e1, lgc0, ha', nm_inj (by decide) (by decide) okv okw] at h
                    rw [if_pos (by rw [hv, h])] at eU
                    rw [nI_inc, show (20 : Int32) = nI 20 from rfl, nI_add, ← eU]; exact ihk
              have e95 : ∀ j a, j = (run isL Y i).length → a = en 27 (((run isL Y i).map lv).take 8) → J l mX12_cut (jZ0 2 G (pV φ)) G 0 0 95 [.ref 112, .int (nI i), .null, .int (nI j), .long (lN a), .null, .null, .null] [.int 0] μ2 := fun j a hj ha => by
                obtain ⟨c8, c7, -⟩ := i7 j (by omega)
                refine b_X12_cut_95 (ψ5 := fun _ _ => True) hG P1 (fun _ h1 h2 => nx _ ?_ a ha) (fun _ _ _ => nx2 j hj) (fun _ h1 h2 => ?_) (fun _ h1 h2 => nx _ ?_ a ha) (fun _ _ _ => nx2 j hj) (fun _ h1 h2 => ?_) (fun h => absurd rfl h) (fun h => absurd rfl h) (fun h => absurd rfl h)
                · rw [c8] at h1
                  rw [c7] at h2
                  rw [eK, if_neg (by omega)]
                  unfold kwd
                  rw [kwU_no 23 (fun k hk z => ?_)]; rfl
                  obtain ⟨v, hv, -, l7⟩ := wrds_ok k hk
                  rw [hv] at z
                  have := Option.some.inj z
                  rw [this, List.length_map] at l7; omega
                · rw [c7] at h2
                  exact e146 (by omega) j a hj ha 0 (by decide)
                · rw [c8] at h1
                  rw [eK, if_pos (by omega)]; rfl
                · rw [c8] at h1
                  rw [c7] at h2
                  exfalso; omega
              have lp : ∀ (q j a : Nat), i + j + q = Y.length → j + (run isL Y (i + j)).length = (run isL Y i).length → enB 27 a (((run isL Y (i + j)).map lv).take (8 - j)) = en 27 (((run isL Y i).map lv).take 8) → J l mX12_cut (jZ0 2 G (pV φ)) G 0 0 85 [.ref 112, .int (nI i), .null, .int (nI j), .long (lN a), .null, .null, .null] [] μ2 := by
                intro q
                induction q with
                | zero =>
                  intro j a hq hl ha
                  refine b_X12_cut_85 hG P1 (c_X12_byteAt hG P1 t1 (nI_add i j) (by omega)) (fun v μ3 h => ?_)
                  obtain ⟨rfl, rfl⟩ := h
                  refine b_X12_cut_92 hG P1 (c_X12_isLetter hG P1 _) (fun v μ4 h => ?_)
                  obtain ⟨rfl, rfl⟩ := h
                  rw [yb_out (by omega)]
                  rw [run_n (by omega)] at hl ha
                  rw [List.map_nil, List.take_nil] at ha
                  exact e95 j a hl ha
                | succ q ih =>
                  intro j a hq hl ha
                  obtain ⟨⟨bL, -⟩, bE⟩ := yb_by hb (i + j)
                  refine b_X12_cut_85 hG P1 (c_X12_byteAt hG P1 t1 (nI_add i j) (by omega)) (fun v μ3 h => ?_)
                  obtain ⟨rfl, rfl⟩ := h
                  refine b_X12_cut_92 hG P1 (c_X12_isLetter hG P1 _) (fun v μ4 h => ?_)
                  obtain ⟨rfl, rfl⟩ := h
                  rw [bL]
                  by_cases hL2 : isL (yb Y (i + j)) = true
                  · have h0 : ¬ b01 (isL (yb Y (i + j))) = 0 := fun z => by rw [b01_0, hL2] at z; cases z
                    obtain ⟨-, -, c8⟩ := i7 j (by omega)
                    rw [run_s (by omega) hL2] at hl ha
                    rw [List.length_cons] at hl
                    refine b_X12_cut_95 (ψ0 := fun _ => True) (ψ2 := fun _ => True) hG P1 (fun h => absurd h h0) (fun h => absurd h h0) (fun h => absurd h h0) (fun h => absurd h h0) (fun h => absurd h h0) (fun h => absurd h h0) (fun _ h => ?_) (fun _ _ => c_X12_byteAt hG P1 t1 (nI_add i j) (by omega)) (fun _ h v μ5 hh => ?_)
                    · rw [c8] at h
                      rw [nI_inc]
                      refine ih (j + 1) a (by omega) (by rw [← Nat.add_assoc]; omega) ?_
                      rw [show 8 - j = 0 by omega] at ha
                      rw [show 8 - (j + 1) = 0 by omega]; exact ha
                    · obtain ⟨rfl, rfl⟩ := hh
                      rw [c8] at h
                      rw [bE (Or.inl hL2)]
                      refine b_X12_cut_113 hG P1 (c_X12_appends hG P1 a _ hL2) (fun v μ6 hh => ?_)
                      obtain ⟨rfl, rfl⟩ := hh
                      refine b_X12_cut_116 hG P1 ?_
                      rw [nI_inc]
                      refine ih (j + 1) _ (by omega) (by rw [← Nat.add_assoc]; omega) ?_
                      rw [show 8 - j = (8 - (j + 1)) + 1 by omega, List.map_cons, List.take_succ_cons] at ha
                      exact ha
                  · have h0 : isL (yb Y (i + j)) = false := by simpa using hL2
                    rw [run_n (fun z => hL2 z.2)] at hl ha
                    rw [List.map_nil, List.take_nil] at ha
                    rw [h0]
                    exact e95 j a hl ha
              exact lp (Y.length - i) 0 0 (by omega) (by rw [Nat.add_zero, Nat.zero_add]) rfl
            · have h0 : b01 (isL (yb Y i)) = 0 := by rw [b01_0]; simpa using hL
              refine b_X12_cut_77 hG P1 (fun _ => c_X12_isDigit hG P1 _) (fun _ v μ3 h => ?_) (fun h => absurd h0 h)
              obtain ⟨rfl, rfl⟩ := h
              rw [aD]
              by_cases hD : isDg (yb Y i) = true
              · have h0 : ¬ b01 (isDg (yb Y i)) = 0 := fun z => by rw [b01_0, hD] at z; cases z
                refine b_X12_cut_200 (ψ0 := fun _ _ => True) hG P1 (fun h => absurd h h0) (fun h => absurd h h0) (fun _ => ?_)
                have hle := run_le (P := isDg) (show i ≤ Y.length by omega)
                have eN : tkN Y i = (run isDg Y i).length := by unfold tkN; rw [if_pos hil, if_neg hL, if_pos hD]
                have eK : tkK Y i = if 4 < (run isDg Y i).length then 3 else 2 := by unfold tkK; rw [if_pos hil, if_neg hL, if_pos hD]
                have nx2 : ∀ j, j = (run isDg Y i).length → ∀ μ4, (μ4 = tokW μ3 n (nI (tkK Y i)) (nI i) (nI (dvA 0 ((run isDg Y i).take 4))) 0) → J l mX12_cut (jZ0 2 G (pV φ)) G 0 0 268 [.ref 112, .int (nI i), .null, .int (nI j), .null, .null, .null, .null] [] μ4 := fun j hj μ4 h => by
                  subst h
                  refine b_X12_cut_268 hG (tok_off.gNN P1) ?_
                  refine next _ _ _ (fun h => ?_) (fun h => ?_) (by rw [hj, eN])
                  · rw [List.take_of_length_le]
                    rw [eK] at h
                    split at h
                    · cases h
                    · omega
                  · exfalso
                    rw [eK] at h
                    split at h <;> cases h
                have nx : ∀ k : Int32, k = nI (tkK Y i) → ∀ a : Nat, a = dvA 0 ((run isDg Y i).take 4) → jC0 l mX12_token 0 G [.ref 112, .int k, .int (nI i), .int (nI a), .long 0] μ3 (pV fun μ' => μ' = tokW μ3 n (nI (tkK Y i)) (nI i) (nI (dvA 0 ((run isDg Y i).take 4))) 0) := fun k hk a ha => by
                  rw [hk, ha]; exact c_X12_token hG P1 hn (by omega) _ _ _ _
                have i4 : ∀ j, j < 2 ^ 31 → ((nI j ≤ 4 ↔ j ≤ 4) ∧ (4 ≤ nI j ↔ 4 ≤ j)) := fun j hj => by
                  rw [i32_le, i32_le, nI_toInt hj]
                  have e4 : (4 : Int32).toInt = 4 := rfl
                  omega
                have e218 : ∀ j a, j = (run isDg Y i).length → a = dvA 0 ((run isDg Y i).take 4) → J l mX12_cut (jZ0 2 G (pV φ)) G 0 0 218 [.ref 112, .int (nI i), .null, .int (nI j), .int (nI a), .null, .null, .null] [.int 0] μ3 := fun j a hj ha => by
                  obtain ⟨c4, -⟩ := i4 j (by omega)
                  refine b_X12_cut_218 (ψ3 := fun _ _ => True) hG P1 (fun _ h1 => nx _ ?_ a ha) (fun _ _ => nx2 j hj) (fun _ h1 => nx _ ?_ a ha) (fun _ _ => nx2 j hj) (fun h => absurd rfl h) (fun h => absurd rfl h) (fun h => absurd rfl h)
                  · rw [c4] at h1
                    rw [eK, if_neg (by omega)]; rfl
                  · rw [c4] at h1
                    rw [eK, if_pos (by omega)]; rfl
                have lp : ∀ (q j a : Nat), i + j + q = Y.length → j + (run isDg Y (i + j)).length = (run isDg Y i).length → dvA a ((run isDg Y (i + j)).take (4 - j)) = dvA 0 ((run isDg Y i).take 4) → J l mX12_cut (jZ0 2 G (pV φ)) G 0 0 208 [.ref 112, .int (nI i), .null, .int (nI j), .int (nI a), .null, .null, .null] [] μ3 := by
                  intro q
                  induction q with
                  | zero =>
                    intro j a hq hl ha
                    refine b_X12_cut_208 hG P1 (c_X12_byteAt hG P1 t1 (nI_add i j) (by omega)) (fun v μ4 h => ?_)
                    obtain ⟨rfl, rfl⟩ := h
                    refine b_X12_cut_215 hG P1 (c_X12_isDigit hG P1 _) (fun v μ5 h => ?_)
                    obtain ⟨rfl, rfl⟩ := h
                    rw [yb_out (by omega)]
                    rw [run_n (by omega)] at hl ha
                    rw [List.take_nil] at ha
                    exact e218 j a hl ha
                  | succ q ih =>
                    intro j a hq hl ha
                    obtain ⟨⟨-, bD, -⟩, bE⟩ := yb_by hb (i + j)
                    refine b_X12_cut_208 hG P1 (c_X12_byteAt hG P1 t1 (nI_add i j) (by omega)) (fun v μ4 h => ?_)
                    obtain ⟨rfl, rfl⟩ := h
                    refine b_X12_cut_215 hG P1 (c_X12_isDigit hG P1 _) (fun v μ5 h => ?_)
                    obtain ⟨rfl, rfl⟩ := h
                    rw [bD]
                    by_cases hD2 : isDg (yb Y (i + j)) = true
                    · have h0 : ¬ b01 (isDg (yb Y (i + j))) = 0 := fun z => by rw [b01_0, hD2] at z; cases z
                      obtain ⟨-, c4⟩ := i4 j (by omega)
                      rw [run_s (by omega) hD2] at hl ha
                      rw [List.length_cons] at hl
                      refine b_X12_cut_218 (ψ0 := fun _ => True) (ψ1 := fun _ => True) hG P1 (fun h => absurd h h0) (fun h => absurd h h0) (fun h => absurd h h0) (fun h => absurd h h0) (fun _ h => ?_) (fun _ _ => c_X12_byteAt hG P1 t1 (nI_add i j) (by omega)) (fun _ h v μ6 hh => ?_)
                      · rw [c4] at h
                        rw [nI_inc]
                        refine ih (j + 1) a (by omega) (by rw [← Nat.add_assoc]; omega) ?_
                        rw [show 4 - j = 0 by omega] at ha
                        rw [show 4 - (j + 1) = 0 by omega]; exact ha
                      · obtain ⟨rfl, rfl⟩ := hh
                        rw [c4] at h
                        rw [bE (Or.inr hD2)]
                        refine b_X12_cut_238 hG P1 ?_
                        have ev : (10 * nI a + yb Y (i + j)) - 48 = nI (a * 10 + ((yb Y (i + j)).toNatClampNeg - 48)) := by
                          rw [(dg_in hD2).2, show (10 : Int32) = nI 10 from rfl, show (48 : Int32) = nI 48 from rfl, pk_mul, nI_add, nI_subN (by omega)]
                          have := (dg_in hD2).1
                          rw [nI_clamp (by omega)]
                          congr 1; omega
                        rw [nI_inc, ev]
                        refine ih (j + 1) _ (by omega) (by rw [← Nat.add_assoc]; omega) ?_
                        rw [show 4 - j = (4 - (j + 1)) + 1 by omega, List.take_succ_cons] at ha
                        exact ha
                    · have h0 : isDg (yb Y (i + j)) = false := by simpa using hD2
                      rw [run_n (fun z => hD2 z.2)] at hl ha
                      rw [List.take_nil] at ha
                      rw [h0]
                      exact e218 j a hl ha
                exact lp (Y.length - i) 0 0 (by omega) (by rw [Nat.add_zero, Nat.zero_add]) rfl
              · have h0 : b01 (isDg (yb Y i)) = 0 := by rw [b01_0]; simpa using hD
                have eN : tkN Y i = 1 := by unfold tkN; rw [if_pos hil, if_neg hL, if_neg hD]
                have eK : tkK Y i = sgn (yb Y i) := by unfold tkK; rw [if_pos hil, if_neg hL, if_neg hD]
                have s3 := sgn_in (yb Y i)
                refine b_X12_cut_200 hG P1 (fun _ => c_X12_byteAt hG P1 t1 (nI_inc i) (by omega)) (fun _ v μ4 h => ?_) (fun h => absurd h0 h)
                obtain ⟨rfl, rfl⟩ := h
                refine b_X12_cut_286 hG P1 (c_X12_sign hG P1 hn (by omega) _ _ _) (fun v μ5 h => ?_)
                obtain ⟨rfl, rfl⟩ := h
                rw [aS, ← eK]
                refine b_X12_cut_289 hG (tok_off.gNN P1) ?_
                exact next 0 0 1 (fun h => by omega) (fun h => by omega) eN.symm
          · intro _ _ _ _ h; exfalso; rw [h] at hB; exact hB rfl
  exact loop 401 0 rfl Y.length 0 _ (Nat.zero_add _) rfl (by rw [wI_at]; rfl) (fun j hj => by omega) (mO3_wF (by decide))
end LexM
