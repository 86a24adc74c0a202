/-! THE CLASS between calls -/
def cN (T : sT) (R : sR) : Nat → Int32 := cRow R (R 65) (nI (T 0 7)) (thN T)
def tapeC (μ : jM) (Y : List Int32) : Prop := μ.1 1 1 = nI Y.length ∧ Y.length ≤ 2000 ∧ ∀ (i : Nat) (b : Int32), Y[i]? = some b → μ.1 2 i = b
def histC (μ : jM) (T : sT) (H : List sR) : Prop := ∃ n, n < 40 ∧ μ.1 54 4 = nI n ∧ μ.1 54 0 = nI H.length ∧ H.length ≤ 40 ∧ ∀ (j : Nat) (R : sR), H[j]? = some R → ∀ i, i < 71 → μ.1 55 (71 * ((n + 40 - H.length + j) % 40) + i) = cN T R i
def hsN (hs : Nat → Bool) : Nat := (if hs 0 = true then 1 else 0) + (if hs 1 = true then 2 else 0) + (if hs 2 = true then 4 else 0)
def slotC (μ : jM) (T : sT) (hs : Nat → Bool) (sl : Nat → sR) : Prop := μ.1 54 1 = nI (hsN hs) ∧ ∀ s, s < 3 → hs s = true → ∀ i, i < 71 → μ.1 56 (71 * s + i) = cN T (sl s) i
def dreamC (μ : jM) (D : List (Nat × Nat × Nat)) : Prop := μ.1 63 0 = nI D.length ∧ D.length ≤ 20 ∧ ∀ (i : Nat) (d : Nat × Nat × Nat), D[i]? = some d → μ.1 66 i = nI d.1 ∧ μ.1 67 i = nI d.2.1 ∧ μ.1 68 i = nI d.2.2
/-- what was learnt of the nights from the begin -/
def lrC (G : jG) (μ : jM) (T : sT) (Lw : Nat → sLaw) : Prop := (μ.2.2 63 7 = none ∧ μ.2.2 63 8 = none ∧ μ.1 63 6 = 0) ∨ ∃ so wr m, μ.2.2 63 7 = some so ∧ μ.2.2 63 8 = some wr ∧ G[so]? = some (0, 3968) ∧ G[wr]? = some (0, 1536) ∧ 167 ≤ so ∧ 167 ≤ wr ∧ so ≠ wr ∧ m ≤ 31 ∧ μ.1 63 6 = nI m ∧ (∀ n, n < m → ∀ s, s < 2 ^ T 0 2 → ∀ k, k < T 0 1 → (bt (μ.1 so (128 * n + s)) k = true ↔ seB T Lw s n k = true)) ∧ (0 < m → ∀ s, s < 2 ^ T 0 2 → ∀ k, k < 12 → μ.1 wr (12 * s + k) = sdW T Lw s m k)
/-- what the latest search found -/
def anI (μ : jM) (T : sT) (Lw : Nat → sLaw) (S : sR) : Prop :=
  (∀ g n, g ≤ 3 → n ≤ 9 → μ.1 57 2 = nI (100 + 10 * g + n) → (μ.1 57 0, μ.1 57 1) = kmF (putF T Lw S n) (putP g) (2 ^ T 0 1)) ∧
  (∀ n, n ≤ 30 → μ.1 57 2 = nI (200 + n) → (μ.1 57 0, μ.1 57 1) = kmF (bstF T Lw S n) allP 10) ∧
  (∀ n, n ≤ 60 → μ.1 57 2 = nI (300 + n) → (μ.1 57 0, μ.1 57 1) = kmF (busF T Lw S n) allP (T 0 1)) ∧
  (∀ n, n ≤ 9 → μ.1 57 2 = nI (400 + n) → ∀ p, p < 16 → μ.1 60 p = tkE T Lw S n p ∧ μ.1 61 p = tkO T Lw S n p) ∧
  (μ.1 57 2 = 500 → (μ.1 57 0, μ.1 57 1) = fstV T Lw S) ∧ (μ.1 57 2 = 600 → (μ.1 57 0, μ.1 57 1) = stV T Lw S)
theorem nI_no1 {n : Nat} (h : n < 2 ^ 31) : ¬ nI n = -1 := fun e => by
  have := congrArg Int32.toInt e
  rw [nI_toInt h, show (-1 : Int32).toInt = -1 from rfl] at this; omega
theorem anI_out {μ : jM} {T : sT} {Lw : Nat → sLaw} {S : sR} (h : μ.1 57 2 = -1) : anI μ T Lw S := by
  unfold anI
  rw [h]
  refine ⟨fun g n hg hn e => absurd e.symm (nI_no1 (by omega)), fun n hn e => absurd e.symm (nI_no1 (by omega)), fun n hn e => absurd e.symm (nI_no1 (by omega)), fun n hn e => absurd e.symm (nI_no1 (by omega)), fun e => absurd e (by decide), fun e => absurd e (by decide)⟩
theorem nI_ne' {a b : Nat} (ha : a < 2 ^ 31) (hb : b < 2 ^ 31) (h : a ≠ b) : ¬ nI a = nI b := fun e => h ((nI_eq ha hb).mp e)
theorem anI_put {μ : jM} {T : sT} {Lw : Nat → sLaw} {S : sR} {g n : Nat} (hg : g ≤ 3) (hn : n ≤ 9) (h2 : μ.1 57 2 = nI (100 + 10 * g + n)) (h0 : (μ.1 57 0, μ.1 57 1) = kmF (putF T Lw S n) (putP g) (2 ^ T 0 1)) : anI μ T Lw S := by
  unfold anI
  rw [h2]
  refine ⟨fun g' n' hg' hn' e => ?_, fun n' hn' e => absurd e (nI_ne' (by omega) (by omega) (by omega)), fun n' hn' e => absurd e (nI_ne' (by omega) (by omega) (by omega)), fun n' hn' e => absurd e (nI_ne' (by omega) (by omega) (by omega)), fun e => absurd e (nI_ne' (b := 500) (by omega) (by omega) (by omega)), fun e => absurd e (nI_ne' (b := 600) (by omega) (by omega) (by omega))⟩
  have := (nI_eq (by omega) (by omega)).mp e
  have e1 : g' = g := by omega
  have e2 : n' = n := by omega
  rw [e1, e2]; exact h0
theorem anI_bst {μ : jM} {T : sT} {Lw : Nat → sLaw} {S : sR} {n : Nat} (hn : n ≤ 30) (h2 : μ.1 57 2 = nI (200 + n)) (h0 : (μ.1 57 0, μ.1 57 1) = kmF (bstF T Lw S n) allP 10) : anI μ T Lw S := by
  unfold anI
  rw [h2]
  refine ⟨fun g' n' hg' hn' e => absurd e (nI_ne' (by omega) (by omega) (by omega)), fun n' hn' e => ?_, fun n' hn' e => absurd e (nI_ne' (by omega) (by omega) (by omega)), fun n' hn' e => absurd e (nI_ne' (by omega) (by omega) (by omega)), fun e => absurd e (nI_ne' (b := 500) (by omega) (by omega) (by omega)), fun e => absurd e (nI_ne' (b := 600) (by omega) (by omega) (by omega))⟩
  have := (nI_eq (by omega) (by omega)).mp e
  rw [show n' = n by omega]; exact h0
theorem anI_bus {μ : jM} {T : sT} {Lw : Nat → sLaw} {S : sR} {n : Nat} (hn : n ≤ 60) (h2 : μ.1 57 2 = nI (300 + n)) (h0 : (μ.1 57 0, μ.1 57 1) = kmF (busF T Lw S n) allP (T 0 1)) : anI μ T Lw S := by
  unfold anI
  rw [h2]
  refine ⟨fun g' n' hg' hn' e => absurd e (nI_ne' (by omega) (by omega) (by omega)), fun n' hn' e => absurd e (nI_ne' (by omega) (by omega) (by omega)), fun n' hn' e => ?_, fun n' hn' e => absurd e (nI_ne' (by omega) (by omega) (by omega)), fun e => absurd e (nI_ne' (b := 500) (by omega) (by omega) (by omega)), fun e => absurd e (nI_ne' (b := 600) (by omega) (by omega) (by omega))⟩
  have := (nI_eq (by omega) (by omega)).mp e
  rw [show n' = n by omega]; exact h0
theorem anI_kp {μ : jM} {T : sT} {Lw : Nat → sLaw} {S : sR} {n : Nat} (hn : n ≤ 9) (h2 : μ.1 57 2 = nI (400 + n)) (h0 : ∀ p, p < 16 → μ.1 60 p = tkE T Lw S n p ∧ μ.1 61 p = tkO T Lw S n p) : anI μ T Lw S := by
  unfold anI
  rw [h2]
  refine ⟨fun g' n' hg' hn' e => absurd e (nI_ne' (by omega) (by omega) (by omega)), fun n' hn' e => absurd e (nI_ne' (by omega) (by omega) (by omega)), fun n' hn' e => absurd e (nI_ne' (by omega) (by omega) (by omega)), fun n' hn' e => ?_, fun e => absurd e (nI_ne' (b := 500) (by omega) (by omega) (by omega)), fun e => absurd e (nI_ne' (b := 600) (by omega) (by omega) (by omega))⟩
  have := (nI_eq (by omega) (by omega)).mp e
  rw [show n' = n by omega]; exact h0
theorem anI_fst {μ : jM} {T : sT} {Lw : Nat → sLaw} {S : sR} (h2 : μ.1 57 2 = 500) (h0 : (μ.1 57 0, μ.1 57 1) = fstV T Lw S) : anI μ T Lw S := by
  unfold anI
  rw [h2]
  exact ⟨fun g' n' hg' hn' e => absurd e (nI_ne' (a := 500) (by omega) (by omega) (by omega)), fun n' hn' e => absurd e (nI_ne' (a := 500) (by omega) (by omega) (by omega)), fun n' hn' e => absurd e (nI_ne' (a := 500) (by omega) (by omega) (by omega)), fun n' hn' e => absurd e (nI_ne' (a := 500) (by omega) (by omega) (by omega)), fun _ => h0, fun e => absurd e (by decide)⟩
theorem anI_stp {μ : jM} {T : sT} {Lw : Nat → sLaw} {S : sR} (h2 : μ.1 57 2 = 600) (h0 : (μ.1 57 0, μ.1 57 1) = stV T Lw S) : anI μ T Lw S := by
  unfold anI
  rw [h2]
  exact ⟨fun g' n' hg' hn' e => absurd e (nI_ne' (a := 600) (by omega) (by omega) (by omega)), fun n' hn' e => absurd e (nI_ne' (a := 600) (by omega) (by omega) (by omega)), fun n' hn' e => absurd e (nI_ne' (a := 600) (by omega) (by omega) (by omega)), fun n' hn' e => absurd e (nI_ne' (a := 600) (by omega) (by omega) (by omega)), fun e => absurd e (by decide), fun _ => h0⟩
def cJ (G : jG) (a : aS) (B t d : Nat) (μ : jM) : Prop := fcI G μ t (gT a) (gL a) (gS a) B ∧ ((d = 70 ∨ d = 91) ∧ d ≠ t ∧ μ.2.2 0 7 = some d ∧ tO gTold pTold G μ d) ∧ tapeC μ (gY a) ∧ μ.1 0 8 = gPl a ∧ histC μ (gT a) (gH a) ∧ slotC μ (gT a) (gHs a) (gSl a) ∧ dreamC μ (gD a) ∧ lrC G μ (gT a) (gL a) ∧ (∀ i, 71 ≤ i → μ.1 65 i = 0) ∧ anI μ (gT a) (gL a) (gS a)
def cI (G : jG) (a : aS) (B : Nat) (μ : jM) : Prop := ∃ t d, cJ G a B t d μ
/-- the words, and which variables each LAW has, stay -/
def kxI (c : Nat) : Prop := c = 79 ∨ c = 83 ∨ c = 87 ∨ c = 100 ∨ c = 104 ∨ c = 108
def hiK (μ μ' : jM) : Prop := μ'.2.1 8 = μ.2.1 8 ∧ ∀ c, kxI c → μ'.1 c 3 = μ.1 c 3
theorem hiK.refl {μ : jM} : hiK μ μ := ⟨rfl, fun _ _ => rfl⟩
theorem hiK.trans {μ μ1 μ2 : jM} (h1 : hiK μ μ1) (h2 : hiK μ1 μ2) : hiK μ μ2 := ⟨h2.1.trans h1.1, fun c h => (h2.2 c h).trans (h1.2 c h)⟩
def hiC (μ μ' : jM) : Prop := (∀ c, 112 ≤ c → c < 167 → μ'.1 c = μ.1 c ∧ μ'.2.1 c = μ.2.1 c ∧ μ'.2.2 c = μ.2.2 c) ∧ (∀ c f x, μ'.2.2 c f = some x → μ.2.2 c f = some x ∨ x < 112) ∧ hiK μ μ'
theorem hiC.refl {μ : jM} : hiC μ μ := ⟨fun _ _ _ => ⟨rfl, rfl, rfl⟩, fun _ _ _ h => Or.inl h, hiK.refl⟩
theorem hiC.trans {μ μ1 μ2 : jM} (h1 : hiC μ μ1) (h2 : hiC μ1 μ2) : hiC μ μ2 := ⟨fun c a b => ⟨(h2.1 c a b).1.trans (h1.1 c a b).1, (h2.1 c a b).2.1.trans (h1.1 c a b).2.1, (h2.1 c a b).2.2.trans (h1.1 c a b).2.2⟩, fun c f x h => by
  rcases h2.2.1 c f x h with g | g
  · exact h1.2.1 c f x g
  · exact Or.inr g, h1.2.2.trans h2.2.2⟩
theorem cO5.hi {PI PL : Nat → Prop} {μ μ' : jM} (h : cO5 PI PL μ μ') (hi : ∀ c, PI c → c < 112 ∧ ¬ kxI c) (hl : ∀ c, PL c → c < 112 ∧ c ≠ 8) : hiC μ μ' := by
  refine ⟨fun c a b => ⟨h.2.1 c (fun z => by have := (hi c z).1; omega), h.2.2.1 c (fun z => by have := (hl c z).1; omega), by funext f; exact h.1 c f (by omega)⟩, fun c f x hx => ?_, h.2.2.1 8 (fun z => (hl 8 z).2 rfl), fun c hc => by rw [h.2.1 c (fun z => (hi c z).2 hc)]⟩
  by_cases e : c = 12 ∧ f = 5
  · rw [e.1, e.2] at hx ⊢
    rcases h.2.2.2 with g | ⟨r, hr, g⟩
    · rw [g] at hx; exact Or.inl hx
    · rw [g] at hx; cases hx; exact Or.inr hr
  · rw [h.1 c f e] at hx; exact Or.inl hx
theorem foI_in {t c : Nat} (ht : t = 70 ∨ t = 91) (h : foI t c) : (12 ≤ c ∧ c ≤ 51) ∨ (57 ≤ c ∧ c ≤ 62) ∨ c = t + 11 ∨ c = t + 15 ∨ c = t + 19 := by unfold foI pnI scI at h; omega
theorem lnL_in {t c : Nat} (h : lnL t c) : c = 12 ∨ c = t + 10 ∨ c = t + 14 ∨ c = t + 18 := by unfold lnL scL at h; omega
/-- a question leaves all as it was, but for what is kept ahead -/
theorem cJ_q {G : jG} {a : aS} {B t d : Nat} {μ μ' : jM} (hc : cJ G a B t d μ) (hf : fcI G μ' t (gT a) (gL a) (gS a) B) (ho : cO5 (foI t) (lnL t) μ μ') (ha : anI μ' (gT a) (gL a) (gS a)) : cJ G a B t d μ' ∧ hiC μ μ' := by
  obtain ⟨h1, ⟨hd, hdt, hd7, hdo⟩, h3, h4, h5, h6, h7, h8, h9, -⟩ := hc
  have ht2 := h1.1.2.2.1.1
  have ec : ∀ c, c < 12 ∨ (52 ≤ c ∧ c ≤ 56) ∨ (63 ≤ c ∧ c < 70) ∨ 112 ≤ c → μ'.1 c = μ.1 c := fun c h => ho.2.1 c (fun z => by have := foI_in ht2 z; omega)
  have hhi : hiC μ μ' := ho.hi (fun c hc => by have := foI_in ht2 hc; unfold kxI; omega) (fun c hc => by have := lnL_in hc; omega)
  refine ⟨⟨hf, ⟨hd, hdt, by rw [ho.1 0 7 (by decide)]; exact hd7, ho.tO (by omega) hdo⟩, ?_, ?_, ?_, ?_, ?_, ?_, ?_, ha⟩, hhi⟩
  · unfold tapeC at h3 ⊢; rw [ec 1 (by omega), ec 2 (by omega)]; exact h3
  · rw [ec 0 (by omega)]; exact h4
  · unfold histC at h5 ⊢; rw [ec 54 (by omega), ec 55 (by omega)]; exact h5
  · unfold slotC at h6 ⊢; rw [ec 54 (by omega), ec 56 (by omega)]; exact h6
  · unfold dreamC at h7 ⊢; rw [ec 63 (by omega), ec 66 (by omega), ec 67 (by omega), ec 68 (by omega)]; exact h7
  · unfold lrC at h8 ⊢
    rw [ho.1 63 7 (by decide), ho.1 63 8 (by decide), ec 63 (by omega)]
    rcases h8 with h | ⟨so, wr, m, e1, e2, e3, e4, e5, e6, e7, e8, e9, e10, e11⟩
    · exact Or.inl h
    · exact Or.inr ⟨so, wr, m, e1, e2, e3, e4, e5, e6, e7, e8, e9, by rw [ec so (by omega)]; exact e10, by rw [ec wr (by omega)]; exact e11⟩
  · rw [ec 65 (by omega)]; exact h9
theorem anI_off {G : jG} {μ μ' : jM} {t : Nat} {T : sT} {Lw : Nat → sLaw} {S : sR} (ht : t = 70 ∨ t = 91) (ho : cO5 (pnI t 59 0) (lnL t) μ μ') (h : anI μ T Lw S) : anI μ' T Lw S := by
  have ec : ∀ c, c = 57 ∨ c = 60 ∨ c = 61 → μ'.1 c = μ.1 c := fun c h => ho.2.1 c (by unfold pnI scI; omega)
  unfold anI at h ⊢
  rw [ec 57 (by omega), ec 60 (by omega), ec 61 (by omega)]; exact h
/-- a question by forecasts that are not kept -/
theorem cJ_p {G : jG} {a : aS} {B t d : Nat} {μ μ' : jM} (hc : cJ G a B t d μ) (hf : fcI G μ' t (gT a) (gL a) (gS a) B) (ho : cO5 (pnI t 59 0) (lnL t) μ μ') : cJ G a B t d μ' ∧ hiC μ μ' :=
  cJ_q hc hf (ho.mono (fun c hc => pn_fo hc) (fun c hc => hc)) (anI_off (G := G) hc.1.1.2.2.1.1 ho hc.2.2.2.2.2.2.2.2.2)
def nwI (t c : Nat) : Prop := c = 12 ∨ c = 14 ∨ scI t c ∨ (17 ≤ c ∧ c ≤ 51)
theorem nw_pn {t c : Nat} (h : nwI t c) : pnI t 59 0 c := by unfold nwI scI at h; unfold pnI scI; omega
theorem fn_nw {t a c : Nat} (ha : a < 7) (h : fnI t a c) : nwI t c := by unfold fnI scI at h; unfold nwI scI; omega
theorem fa_nw {t c : Nat} (h : faI t c) : nwI t c := by unfold faI scI at h; unfold nwI scI; omega
theorem ln_nw {t n c : Nat} (hn : n ≤ 7) (h : lnI t n c) : nwI t c := by
  unfold nwI
  rcases h with z | z | z | ⟨b, z1, z2⟩
  · exact Or.inl z
  · exact Or.inr (Or.inl z)
  · exact Or.inr (Or.inr (Or.inl z))
  · exact Or.inr (Or.inr (Or.inr (by omega)))
section ClsA
variable {l : Launch} {G : jG}
/-- the row that is now is entered -/
theorem fc_now52 (hG : gGG G) {μ : jM} (hP : gPP μ) {t B : Nat} {T : sT} {Lw : Nat → sLaw} {S : sR} (hf : fcI G μ t T Lw S B) : jC0 l mX10_enter 3 G [.ref 12, .ref 52] μ (pV fun μ' => gPP μ' ∧ enS G μ' t 53 T Lw S (S 65) (nI (T 0 7)) (thN T) B ∧ cO5 (nwI t) (lnL t) μ μ') := by
  have hB : B ≤ BB := by have := hf.2.2.1.2.1; omega
  have h7 := hf.1.2.2.1.2.2.2.2.2.1.2.2.1
  obtain ⟨r, hr9, hr⟩ := hf.2.2.1.2.2
  refine (c_X10_enter hG hP (s := 52) hf.1 (by decide) hf.2.1 hf.2.2.1.1 hB ⟨⟨r, hr9, hr⟩, r, hr9, hr⟩).mono (pV_mono ?_)
  rintro μ1 ⟨hS1, ho1, -⟩
  have ho : cO5 (nwI t) (lnL t) μ μ1 := ho1.o5w.mono (fun c hc => ln_nw h7 hc) (fun c hc => hc)
  exact ⟨ho.gPP hP, hS1, ho⟩
/-- behind it all stands -/
theorem fc_n53 {μ μ' : jM} {t B B' : Nat} {T : sT} {Lw : Nat → sLaw} {S S' : sR} {od lots th : Int32} (hf : fcI G μ t T Lw S B) (hS : enS G μ' t 53 T Lw S' od lots th B') (ho : cO5 (nwI t) (lnL t) μ μ') : fcI G μ' t T Lw S B := by
  have ht2 := hf.1.2.2.1.1
  refine fc_now hf (enS_pe hS) (ho.mono (fun c hc => nw_pn hc) (fun c hc => hc)) (fun i hi => ?_)
  rw [ho.2.1 59 (by unfold nwI scI; omega)]; exact hf.2.2.2 i hi
theorem c_X11_isRoad (hG : gGG G) {μ : jM} (hP : gPP μ) {t B : Nat} {T : sT} {Lw : Nat → sLaw} {S : sR} (hf : fcI G μ t T Lw S B) (x : Int32) : jC0 l mX11_isRoad 0 G [.ref 0, .int x] μ (pI fun z μ' => μ' = μ ∧ ((z = 1 ∧ isN x (T 0 1)) ∨ (z = 0 ∧ ¬ isN x (T 0 1)))) := by
  refine jC0.of' (ls := [.ref 0, .int x]) rfl rfl rfl (fun _ _ => Nat.le_of_ble_eq_true rfl) ?_
  have hx := hf.1.2.2.1
  have h12 := hx.2.2.2.2.2.1.2.1
  have e : μ.1 t 1 = nI (T 0 1) := hx.2.1.2.1
  refine b_X11_isRoad_0 hG hP hf.1.1 hf.1.2.1 (fun h => ⟨rfl, Or.inr ⟨rfl, isN_lt h (by omega)⟩⟩) (fun _ h => ⟨rfl, Or.inr ⟨rfl, isN_ge (by omega) (by rw [← e]; exact h)⟩⟩) (fun h0 h => ⟨rfl, Or.inl ⟨rfl, isN_of (by omega) h0 (by rw [← e]; exact h)⟩⟩)
theorem c_X11_isGhost (hG : gGG G) {μ : jM} (hP : gPP μ) {t B : Nat} {T : sT} {Lw : Nat → sLaw} {S : sR} (hf : fcI G μ t T Lw S B) (x : Int32) : jC0 l mX11_isGhost 0 G [.ref 0, .int x] μ (pI fun z μ' => μ' = μ ∧ ((z = 1 ∧ isN x (T 0 2)) ∨ (z = 0 ∧ ¬ isN x (T 0 2)))) := by
  refine jC0.of' (ls := [.ref 0, .int x]) rfl rfl rfl (fun _ _ => Nat.le_of_ble_eq_true rfl) ?_
  have hx := hf.1.2.2.1
  have h12 := hx.2.2.2.2.2.1.2.2.1
  have e : μ.1 t 2 = nI (T 0 2) := hx.2.1.2.2.1
  refine b_X11_isGhost_0 hG hP hf.1.1 hf.1.2.1 (fun h => ⟨rfl, Or.inr ⟨rfl, isN_lt h (by omega)⟩⟩) (fun _ h => ⟨rfl, Or.inr ⟨rfl, isN_ge (by omega) (by rw [← e]; exact h)⟩⟩) (fun h0 h => ⟨rfl, Or.inl ⟨rfl, isN_of (by omega) h0 (by rw [← e]; exact h)⟩⟩)
end ClsA
