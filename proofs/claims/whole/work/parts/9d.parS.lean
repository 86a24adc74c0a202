/-! THE PARSER, as a function of the tokens: a FAULT of form ends it (its number, its PLACE); the first FAULT of sense is kept -/
abbrev pF : Type := Nat × Nat
def bd {α β : Type} (x : Except pF α) (f : α → Except pF β) : Except pF β := match x with
  | .error e => .error e
  | .ok a => f a
theorem bd_ok {α β : Type} {a : α} {f : α → Except pF β} : bd (.ok a) f = f a := rfl
theorem bd_er {α β : Type} {e : pF} {f : α → Except pF β} : bd (.error e) f = .error e := rfl
theorem bd_inv {α β : Type} {x : Except pF α} {f : α → Except pF β} {b : β} (h : bd x f = .ok b) : ∃ a, x = .ok a ∧ f a = .ok b := by
  cases x with
  | error e => cases h
  | ok a => exact ⟨a, rfl, h⟩
def tke (Y : List Int32) (t : Nat) : Except pF Nat := if t = 400 then .error (2, pl Y t) else .ok (t + 1)
def xpc (Y : List Int32) (k t : Nat) : Except pF Nat := if kd Y t = k then tke Y t else .error (1, pl Y t)
def rnk (k : Nat) : Nat := if k = 8 ∨ k = 9 then 1 else if k = 10 ∨ k = 15 then 2 else 0
def opw (k : Nat) : Nat := if k = 8 then 2 else if k = 9 then 3 else if k = 10 then 4 else 5
def pw (r : Nat) : List Nat → sE → List Nat × sE
  | [], o => ([], o)
  | w :: W, o => if r ≤ rnk w then pw r W (o ++ [(opw w, 0)]) else (w :: W, o)
def opn (Y : List Int32) : Nat → Nat → Nat → List Nat → Except pF (Nat × Nat × List Nat)
  | 0, t, d, W => .ok (t, d, W)
  | n + 1, t, d, W => if kd Y t = 6 then (if d = 6 then .error (2, pl Y t) else bd (tke Y t) fun t' => opn Y n t' (d + 1) (6 :: W)) else .ok (t, d, W)
def unt (Y : List Int32) (t : Nat) : Except pF (Nat × (Nat × Int32)) := if kd Y t = 2 then bd (tke Y t) fun t' => .ok (t', (0, nI (vl Y t))) else if 34 ≤ kd Y t then bd (tke Y t) fun t' => .ok (t', (1, nI (kd Y t - 34))) else .error (1, pl Y t)
def cls (Y : List Int32) : Nat → Nat → Nat → List Nat → sE → Except pF (Nat × Nat × List Nat × sE)
  | 0, t, d, W, o => .ok (t, d, W, o)
  | n + 1, t, d, W, o => if kd Y t = 7 ∧ 0 < d then bd (tke Y t) fun t' => cls Y n t' (d - 1) (pw 1 W o).1.tail (pw 1 W o).2 else .ok (t, d, W, o)
def un1 (Y : List Int32) (t d : Nat) (W : List Nat) (o : sE) : Except pF (Nat × Nat × List Nat × sE) := bd (opn Y 7 t d W) fun s => bd (unt Y s.1) fun u => cls Y 7 u.1 s.2.1 s.2.2 (o ++ [u.2])
def exL (Y : List Int32) : Nat → Nat → Nat → List Nat → sE → Except pF (Nat × sE)
  | 0, _, _, _, _ => .error (0, 0)
  | n + 1, t, d, W, o => bd (un1 Y t d W o) fun s => if rnk (kd Y s.1) = 0 then (if 0 < s.2.1 then .error (1, pl Y s.1) else .ok (s.1, (pw 1 s.2.2.1 s.2.2.2).2)) else bd (tke Y s.1) fun t' => exL Y n t' s.2.1 (kd Y s.1 :: (pw (rnk (kd Y s.1)) s.2.2.1 s.2.2.2).1) (pw (rnk (kd Y s.1)) s.2.2.1 s.2.2.2).2
def exS (Y : List Int32) (t : Nat) : Except pF (Nat × sE) := exL Y 401 t 0 [] []
def lwL (Y : List Int32) : Nat → Nat → sLaw → Except pF (Nat × sLaw)
  | 0, _, _ => .error (0, 0)
  | n + 1, t, L => if kd Y t = 31 then (if n = 0 then .error (2, pl Y t) else bd (tke Y t) fun t1 => bd (exS Y t1) fun e1 => bd (xpc Y 13 e1.1) fun t2 => bd (exS Y t2) fun e2 => bd (xpc Y 32 e2.1) fun t3 => bd (exS Y t3) fun e3 => bd (xpc Y 33 e3.1) fun t4 => lwL Y n t4 (L ++ [(some (e1.2, e2.2), e3.2)])) else bd (exS Y t) fun e => .ok (e.1, L ++ [(none, e.2)])
def NON : Nat := 4294967295
theorem nI_NON : nI NON = -1 := by decide
abbrev nL : Type := List (List Nat × Nat)
def plN (N : nL) : List (List Nat) := (N.filter (fun x => x.2 != NON)).map Prod.fst
def ghN (N : nL) : List (List Nat) := (N.filter (fun x => x.2 == NON)).map Prod.fst
def fid : List (List Nat) → List Nat → Nat → Nat
  | [], _, _ => NON
  | w :: r, n, i => if w = n then i else fid r n (i + 1)
def dpl (N : nL) (n : List Nat) : Bool := N.any (fun x => x.1 == n)
def sns (w : Nat × Nat) (k p : Nat) : Nat × Nat := if w.1 = 0 then (k, p) else w
def nwN (Y : List Int32) (t : Nat) (w : Nat × Nat) (N : nL) : Except pF (Nat × (Nat × Nat)) := bd (xpc Y 1 t) fun t1 => .ok (t1, if dpl N (nm Y t) = true then sns w 3 (pl Y t) else w)
def olW (Y : List Int32) (b t : Nat) (w : Nat × Nat) (N : nL) : Nat × Nat := if fid (plN N) (nm Y t) 0 = NON then sns w 4 (pl Y t) else if fid (plN N) (nm Y t) 0 = b then sns w 3 (pl Y t) else w
def olP (Y : List Int32) (b t : Nat) (w : Nat × Nat) (N : nL) : Except pF (Nat × (Nat × Nat) × Nat) := bd (xpc Y 1 t) fun t1 => .ok (t1, olW Y b t w N, fid (plN N) (nm Y t) 0)
def nbW (Y : List Int32) (lo hi t : Nat) (w : Nat × Nat) : Nat × Nat := if lo ≤ vl Y t ∧ vl Y t ≤ hi then w else sns w 5 (pl Y t)
def nmb (Y : List Int32) (lo hi t : Nat) (w : Nat × Nat) : Except pF (Nat × (Nat × Nat) × Nat) := bd (xpc Y 2 t) fun t1 => .ok (t1, nbW Y lo hi t w, vl Y t)
def opt (Y : List Int32) (k t : Nat) : Except pF (Nat × Nat) := if kd Y t = k then bd (tke Y t) fun t1 => .ok (t1, 1) else .ok (t, 0)
def sT1 (T : sT) (f i v : Nat) : sT := fun x y => if x = f ∧ y = i then v else T x y
abbrev pS : Type := Nat × (Nat × Nat) × sT × (Nat → sLaw) × nL
def rdT (T : sT) (a b h f g : Nat) : sT := sT1 (sT1 (sT1 (sT1 (sT1 (sT1 T 1 (T 0 1) a) 2 (T 0 1) b) 3 (T 0 1) h) 4 (T 0 1) f) 0 3 (T 0 3 + g * 2 ^ T 0 1)) 0 1 (T 0 1 + 1)
def ghT (T : sT) (h g k c e : Nat) : sT := sT1 (sT1 (sT1 (sT1 (sT1 (sT1 T 5 (T 0 2) h) 6 (T 0 2) g) 7 (T 0 2) k) 8 (T 0 2) c) 9 (T 0 2) e) 0 2 (T 0 2 + 1)
def tlP (Y : List Int32) (t : Nat) (w : Nat × Nat) (T : sT) (Lw : Nat → sLaw) (N : nL) : Except pF pS := if T 0 0 = 8 then .error (2, pl Y t) else bd (tke Y t) fun t1 => bd (nwN Y t1 w N) fun r => bd (xpc Y 4 r.1) fun t3 => .ok (t3, r.2, sT1 T 0 0 (T 0 0 + 1), Lw, N ++ [(nm Y t1, T 0 0)])
def tlR (Y : List Int32) (t : Nat) (w : Nat × Nat) (T : sT) (Lw : Nat → sLaw) (N : nL) : Except pF pS := if T 0 1 = 12 then .error (2, pl Y t) else bd (tke Y t) fun t1 => bd (olP Y NON t1 w N) fun a => bd (olP Y a.2.2 a.1 a.2.1 N) fun b => bd (nmb Y 1 9 b.1 b.2.1) fun h => bd (opt Y 22 h.1) fun f => bd (opt Y 23 f.1) fun g => bd (xpc Y 4 g.1) fun t7 => .ok (t7, h.2.1, rdT T a.2.2 b.2.2 h.2.2 f.2 g.2, Lw, N)
def tlG (Y : List Int32) (t : Nat) (w : Nat × Nat) (T : sT) (Lw : Nat → sLaw) (N : nL) : Except pF pS := if T 0 2 = 7 then .error (2, pl Y t) else bd (tke Y t) fun t1 => bd (nwN Y t1 w N) fun n => bd (olP Y NON n.1 n.2 N) fun a => bd (olP Y a.2.2 a.1 a.2.1 N) fun b => bd (nmb Y 0 9 b.1 b.2.1) fun k => bd (nmb Y 0 99 k.1 k.2.1) fun c => bd (nmb Y 1 9 c.1 c.2.1) fun e => bd (xpc Y 4 e.1) fun t8 => .ok (t8, e.2.1, ghT T a.2.2 b.2.2 k.2.2 c.2.2 e.2.2, Lw, N ++ [(nm Y t1, NON)])
def tlL (Y : List Int32) (q t : Nat) (w : Nat × Nat) (T : sT) (Lw : Nat → sLaw) (N : nL) : Except pF pS := bd (tke Y t) fun t1 => bd (xpc Y 5 t1) fun t2 => bd (lwL Y 5 t2 []) fun r => bd (xpc Y 4 r.1) fun t4 => .ok (t4, w, T, (fun x => if x = q then r.2 else Lw x), N)
def tlF (Y : List Int32) (t : Nat) (w : Nat × Nat) (T : sT) (Lw : Nat → sLaw) (N : nL) : Except pF pS := bd (tke Y t) fun t1 => bd (nmb Y 0 100 t1 w) fun a => bd (xpc Y 4 a.1) fun t3 => .ok (t3, a.2.1, sT1 T 0 4 a.2.2, Lw, N)
def tlM (Y : List Int32) (t : Nat) (w : Nat × Nat) (T : sT) (Lw : Nat → sLaw) (N : nL) : Except pF pS := bd (tke Y t) fun t1 => bd (nmb Y 0 100 t1 w) fun a => bd (nmb Y 0 100 a.1 a.2.1) fun b => bd (xpc Y 4 b.1) fun t3 => .ok (t3, b.2.1, sT1 (sT1 T 0 5 a.2.2) 0 6 b.2.2, Lw, N)
def tlS (Y : List Int32) (t : Nat) (w : Nat × Nat) (T : sT) (Lw : Nat → sLaw) (N : nL) : Except pF pS := bd (tke Y t) fun t1 => bd (nmb Y 0 9999 t1 w) fun a => bd (xpc Y 4 a.1) fun t3 => .ok (t3, a.2.1, sT1 T 0 7 a.2.2, Lw, N)
def tll (Y : List Int32) (t : Nat) (w : Nat × Nat) (T : sT) (Lw : Nat → sLaw) (N : nL) : Except pF pS := if kd Y t = 20 then tlP Y t w T Lw N else if kd Y t = 21 then tlR Y t w T Lw N else if kd Y t = 24 then tlG Y t w T Lw N else if kd Y t = 28 then tlF Y t w T Lw N else if kd Y t = 29 then tlM Y t w T Lw N else if kd Y t = 30 then tlS Y t w T Lw N else if 25 ≤ kd Y t ∧ kd Y t ≤ 27 then tlL Y (kd Y t - 25) t w T Lw N else .error (1, pl Y t)
def rdL (Y : List Int32) : Nat → pS → Except pF pS
  | 0, _ => .error (0, 0)
  | n + 1, s => if kd Y s.1 = 0 then .ok s else bd (tll Y s.1 s.2.1 s.2.2.1 s.2.2.2.1 s.2.2.2.2) fun s' => rdL Y n s'
def T0 : sT := fun x y => if x = 0 ∧ y = 5 then 10 else if x = 0 ∧ y = 6 then 20 else 0
def rdS (Y : List Int32) : Except pF pS := rdL Y 401 (0, (0, 0), T0, dLaw, [])
/-! what holds all along: an E -/
theorem gd_s {Y : List Int32} {t : Nat} (h : gd Y t) (h0 : kd Y t ≠ 0) (h3 : kd Y t ≠ 3) : gd Y (t + 1) := fun j hj => by
  by_cases e : j = t
  · rw [e]; exact ⟨h0, h3⟩
  · exact h j (by omega)
theorem tke_ok {Y : List Int32} {t t' : Nat} (h : tke Y t = .ok t') : t' = t + 1 ∧ t ≠ 400 := by
  unfold tke at h
  split at h
  · cases h
  · cases h; exact ⟨rfl, by assumption⟩
theorem xpc_ok {Y : List Int32} {k t t' : Nat} (h : xpc Y k t = .ok t') : kd Y t = k ∧ t' = t + 1 ∧ t ≠ 400 := by
  unfold xpc at h
  split at h
  · exact ⟨by assumption, tke_ok h⟩
  · cases h
theorem rW_app : ∀ (a b : sE) (n : Nat), rW (a ++ b) n = (rW a n).bind (rW b) := by
  intro a
  induction a with
  | nil => intro b n; rfl
  | cons q a ih =>
    obtain ⟨k, v⟩ := q
    intro b n
    simp only [List.cons_append, rW]
    repeat' split
    all_goals first | exact ih _ _ | rfl
def opc (W : List Nat) : Nat := (W.filter (· ≠ 6)).length
theorem opc_6 {W : List Nat} : opc (6 :: W) = opc W := by unfold opc; simp
theorem opc_c {w : Nat} {W : List Nat} (h : w ≠ 6) : opc (w :: W) = opc W + 1 := by unfold opc; simp [h]
theorem rnk_op {w : Nat} (h : 1 ≤ rnk w) : w = 8 ∨ w = 9 ∨ w = 10 ∨ w = 15 := by
  unfold rnk at h
  split at h
  · omega
  · split at h <;> omega
theorem opw_in (w : Nat) : 2 ≤ opw w ∧ opw w ≤ 5 := by
  unfold opw
  repeat' split
  all_goals omega
theorem pw_rW {r : Nat} (hr : 1 ≤ r) : ∀ (W : List Nat) (o : sE), rW o 0 = some (opc W + 1) → rW (pw r W o).2 0 = some (opc (pw r W o).1 + 1) := by
  intro W
  induction W with
  | nil => intro o h; exact h
  | cons w W ih =>
    intro o h
    unfold pw
    split
    next hw =>
      have := rnk_op (show 1 ≤ rnk w by omega)
      have hi := opw_in w
      refine ih _ ?_
      rw [rW_app, h, opc_c (by omega)]
      show rW [(opw w, 0)] (opc W + 1 + 1) = _
      unfold rW
      rw [if_neg (by omega), if_neg (by omega), if_pos ⟨by omega, by omega⟩]
      rfl
    next => exact h
theorem pw_len {r : Nat} (hr : 1 ≤ r) : ∀ (W : List Nat) (o : sE), (pw r W o).2.length + opc (pw r W o).1 = o.length + opc W := by
  intro W
  induction W with
  | nil => intro o; rfl
  | cons w W ih =>
    intro o
    unfold pw
    split
    next hw =>
      have := rnk_op (show 1 ≤ rnk w by omega)
      rw [ih, opc_c (by omega)]
      simp; omega
    next => rfl
theorem e9_app {a b : sE} (ha : e9 a) (hb : e9 b) : e9 (a ++ b) := fun q hq => by
  rcases List.mem_append.mp hq with h | h
  · exact ha q h
  · exact hb q h
theorem pw_e9 {r : Nat} : ∀ (W : List Nat) (o : sE), e9 o → e9 (pw r W o).2 := by
  intro W
  induction W with
  | nil => intro o h; exact h
  | cons w W ih =>
    intro o h
    unfold pw
    split
    next hw =>
      have hi := opw_in w
      refine ih _ (e9_app h ?_)
      intro q hq h0
      rw [List.mem_singleton] at hq
      rw [hq] at h0
      have h0 : opw w = 0 := h0
      omega
    next => exact h
def sgm (S : List Nat) : Prop := S = [] ∨ (∃ a, S = [a] ∧ (a = 8 ∨ a = 9 ∨ a = 10 ∨ a = 15)) ∨ ∃ a b, S = [a, b] ∧ (a = 10 ∨ a = 15) ∧ (b = 8 ∨ b = 9)
def wW : Nat → List Nat → Prop
  | 0, W => sgm W
  | d + 1, W => ∃ S R, W = S ++ 6 :: R ∧ sgm S ∧ wW d R
theorem sgm_len {S : List Nat} (h : sgm S) : S.length ≤ 2 := by
  rcases h with rfl | ⟨a, rfl, _⟩ | ⟨a, b, rfl, _⟩ <;> simp
theorem opc_app {S R : List Nat} : opc (S ++ R) = opc S + opc R := by unfold opc; simp
theorem opc_le {S : List Nat} : opc S ≤ S.length := by unfold opc; exact List.length_filter_le _ _
theorem wW_len : ∀ (d : Nat) (W : List Nat), wW d W → W.length ≤ 3 * d + 2 ∧ opc W ≤ 2 * d + 2 := by
  intro d
  induction d with
  | zero => intro W h; have h : sgm W := h; have h1 := sgm_len h; have := opc_le (S := W); omega
  | succ d ih =>
    intro W h
    obtain ⟨S, R, rfl, hS, hR⟩ := h
    have h1 := sgm_len hS
    obtain ⟨h2, h3⟩ := ih R hR
    have h4 := opc_le (S := S)
    rw [opc_app, opc_6, List.length_append, List.length_cons]
    omega
theorem pw1_sg {S : List Nat} (h : sgm S) (R : List Nat) (hR : R = [] ∨ ∃ R', R = 6 :: R') (o : sE) : (pw 1 (S ++ R) o).1 = R := by
  have h0 : ∀ o, (pw 1 R o).1 = R := fun o => by rcases hR with rfl | ⟨R', rfl⟩ <;> simp [pw, rnk]
  rcases h with rfl | ⟨a, rfl, h⟩ | ⟨a, b, rfl, h1, h2⟩
  · exact h0 o
  · rcases h with rfl | rfl | rfl | rfl <;> simp [pw, rnk, h0]
  · rcases h1 with rfl | rfl <;> rcases h2 with rfl | rfl <;> simp [pw, rnk, h0]
theorem pw2_sg {S : List Nat} (h : sgm S) (R : List Nat) (hR : R = [] ∨ ∃ R', R = 6 :: R') (o : sE) : ∃ S', (pw 2 (S ++ R) o).1 = S' ++ R ∧ (S' = [] ∨ ∃ b, S' = [b] ∧ (b = 8 ∨ b = 9)) := by
  have h0 : ∀ o, (pw 2 R o).1 = R := fun o => by rcases hR with rfl | ⟨R', rfl⟩ <;> simp [pw, rnk]
  rcases h with rfl | ⟨a, rfl, h⟩ | ⟨a, b, rfl, h1, h2⟩
  · exact ⟨[], h0 o, Or.inl rfl⟩
  · rcases h with rfl | rfl | rfl | rfl
    · exact ⟨[8], by simp [pw, rnk], Or.inr ⟨8, rfl, Or.inl rfl⟩⟩
    · exact ⟨[9], by simp [pw, rnk], Or.inr ⟨9, rfl, Or.inr rfl⟩⟩
    · exact ⟨[], by simp [pw, rnk, h0], Or.inl rfl⟩
    · exact ⟨[], by simp [pw, rnk, h0], Or.inl rfl⟩
  · exact ⟨[b], by rcases h1 with rfl | rfl <;> rcases h2 with rfl | rfl <;> simp [pw, rnk], Or.inr ⟨b, rfl, h2⟩⟩
/-- all that waits behind the last '(' comes out -/
theorem pw1_W {d : Nat} {W : List Nat} (h : wW d W) (o : sE) : (d = 0 ∧ (pw 1 W o).1 = []) ∨ ∃ d' R, d = d' + 1 ∧ (pw 1 W o).1 = 6 :: R ∧ wW d' R := by
  cases d with
  | zero =>
    have := pw1_sg (show sgm W from h) [] (Or.inl rfl) o
    rw [List.append_nil] at this
    exact Or.inl ⟨rfl, this⟩
  | succ d =>
    obtain ⟨S, R, rfl, hS, hR⟩ := h
    exact Or.inr ⟨d, R, rfl, pw1_sg hS _ (Or.inr ⟨R, rfl⟩) o, hR⟩
theorem wW_push {d : Nat} {W : List Nat} (h : wW d W) {k : Nat} (hk : rnk k ≠ 0) (o : sE) : wW d (k :: (pw (rnk k) W o).1) := by
  have hr := rnk_op (show 1 ≤ rnk k by omega)
  by_cases hw : k = 8 ∨ k = 9
  · have e : rnk k = 1 := by unfold rnk; rw [if_pos hw]
    rw [e]
    rcases pw1_W h o with ⟨rfl, e1⟩ | ⟨d', R, rfl, e1, hR⟩
    · rw [e1]; exact Or.inr (Or.inl ⟨k, rfl, by omega⟩)
    · rw [e1]; exact ⟨[k], R, rfl, Or.inr (Or.inl ⟨k, rfl, by omega⟩), hR⟩
  · have e : rnk k = 2 := by unfold rnk; rw [if_neg hw, if_pos (by omega)]
    rw [e]
    have fin : ∀ S', (S' = [] ∨ ∃ b, S' = [b] ∧ (b = 8 ∨ b = 9)) → sgm (k :: S') := fun S' h => by
      rcases h with rfl | ⟨b, rfl, hb⟩
      · exact Or.inr (Or.inl ⟨k, rfl, by omega⟩)
      · exact Or.inr (Or.inr ⟨k, b, rfl, by omega, hb⟩)
    cases d with
    | zero =>
      obtain ⟨S', e1, hS'⟩ := pw2_sg (show sgm W from h) [] (Or.inl rfl) o
      rw [List.append_nil, List.append_nil] at e1
      rw [e1]; exact fin S' hS'
    | succ d =>
      obtain ⟨S, R, rfl, hS, hR⟩ := h
      obtain ⟨S', e1, hS'⟩ := pw2_sg hS (6 :: R) (Or.inr ⟨R, rfl⟩) o
      rw [e1]
      exact ⟨k :: S', R, rfl, fin S' hS', hR⟩
/-- the state of an E that is being read: begun at token t0, b units more than operators -/
def xI (Y : List Int32) (t0 t d : Nat) (W : List Nat) (o : sE) (b : Nat) : Prop := (t ≤ 400 ∧ gd Y t) ∧ d ≤ 6 ∧ wW d W ∧ rW o 0 = some (opc W + b) ∧ e9 o ∧ t0 + o.length + opc W ≤ t
theorem xI_open {Y : List Int32} {t0 t d : Nat} {W : List Nat} {o : sE} (h : xI Y t0 t d W o 0) (hk : kd Y t = 6) (hd : d ≠ 6) (h4 : t ≠ 400) : xI Y t0 (t + 1) (d + 1) (6 :: W) o 0 := by
  obtain ⟨⟨h1, h2⟩, h3, h4', h5, h6, h7⟩ := h
  exact ⟨⟨by omega, gd_s h2 (by omega) (by omega)⟩, by omega, ⟨[], W, rfl, Or.inl rfl, h4'⟩, by rw [opc_6]; exact h5, h6, by rw [opc_6]; omega⟩
theorem xI_unit {Y : List Int32} {t0 t d : Nat} {W : List Nat} {o : sE} {u : Nat × Int32} (h : xI Y t0 t d W o 0) (hk : (kd Y t = 2 ∧ u = (0, nI (vl Y t))) ∨ (34 ≤ kd Y t ∧ u = (1, nI (kd Y t - 34)))) (h4 : t ≠ 400) : xI Y t0 (t + 1) d W (o ++ [u]) 1 := by
  obtain ⟨⟨h1, h2⟩, h3, h4', h5, h6, h7⟩ := h
  have hl := (wW_len d W h4').2
  refine ⟨⟨by omega, gd_s h2 (by omega) (by omega)⟩, h3, h4', ?_, e9_app h6 ?_, by simp; omega⟩
  · rw [rW_app, h5]
    show rW [u] (opc W + 0) = _
    rcases hk with ⟨-, rfl⟩ | ⟨hk, rfl⟩
    · unfold rW
      rw [if_pos rfl, if_pos (by omega)]; rfl
    · unfold rW
      have := kd_in (Y := Y) (i := t)
      rw [if_neg (by decide), if_pos rfl, if_pos ⟨by omega, by rw [nI_clamp (by omega)]; omega, nI_pos (by omega)⟩]; rfl
  · intro q hq h0
    rw [List.mem_singleton] at hq
    subst hq
    rcases hk with ⟨hk, rfl⟩ | ⟨hk, rfl⟩
    · have := vl_le hk
      exact ⟨nI_pos (by omega), by show (nI (vl Y t)).toNatClampNeg ≤ 9999; rw [nI_clamp (by omega)]; omega⟩
    · cases h0
theorem xI_close {Y : List Int32} {t0 t d : Nat} {W : List Nat} {o : sE} (h : xI Y t0 t d W o 1) (hk : kd Y t = 7) (hd : 0 < d) (h4 : t ≠ 400) : (∃ R, (pw 1 W o).1 = 6 :: R) ∧ xI Y t0 (t + 1) (d - 1) (pw 1 W o).1.tail (pw 1 W o).2 1 := by
  obtain ⟨⟨h1, h2⟩, h3, h4', h5, h6, h7⟩ := h
  have hr := pw_rW (r := 1) (Nat.le_refl _) W o h5
  have hl := pw_len (r := 1) (Nat.le_refl _) W o
  rcases pw1_W h4' o with ⟨rfl, -⟩ | ⟨d', R, rfl, e1, hR⟩
  · omega
  · refine ⟨⟨R, e1⟩, ⟨by omega, gd_s h2 (by omega) (by omega)⟩, by omega, ?_, ?_, pw_e9 W o h6, ?_⟩
    · rw [e1]; exact hR
    · rw [e1, opc_6] at hr; rw [e1]; exact hr
    · rw [e1, opc_6] at hl; rw [e1, List.tail_cons]; omega
theorem xI_op {Y : List Int32} {t0 t d : Nat} {W : List Nat} {o : sE} (h : xI Y t0 t d W o 1) (hk : rnk (kd Y t) ≠ 0) (h4 : t ≠ 400) : xI Y t0 (t + 1) d (kd Y t :: (pw (rnk (kd Y t)) W o).1) (pw (rnk (kd Y t)) W o).2 0 := by
  obtain ⟨⟨h1, h2⟩, h3, h4', h5, h6, h7⟩ := h
  have hr := pw_rW (r := rnk (kd Y t)) (by omega) W o h5
  have hl := pw_len (r := rnk (kd Y t)) (by omega) W o
  have ho := rnk_op (show 1 ≤ rnk (kd Y t) by omega)
  refine ⟨⟨by omega, gd_s h2 (by omega) (by omega)⟩, h3, wW_push h4' hk o, ?_, pw_e9 W o h6, ?_⟩
  · rw [opc_c (by omega)]; exact hr
  · rw [opc_c (by omega)]; omega
theorem xI_end {Y : List Int32} {t0 t : Nat} {W : List Nat} {o : sE} (h : xI Y t0 t 0 W o 1) : (pw 1 W o).1 = [] ∧ rW (pw 1 W o).2 0 = some 1 ∧ e9 (pw 1 W o).2 ∧ t0 + (pw 1 W o).2.length ≤ t := by
  obtain ⟨⟨h1, h2⟩, h3, h4', h5, h6, h7⟩ := h
  have hr := pw_rW (r := 1) (Nat.le_refl _) W o h5
  have hl := pw_len (r := 1) (Nat.le_refl _) W o
  rcases pw1_W h4' o with ⟨-, e1⟩ | ⟨d', R, z, -⟩
  · rw [e1] at hr hl
    exact ⟨e1, hr, pw_e9 W o h6, by have : opc [] = 0 := rfl; omega⟩
  · cases z
theorem xI_0 {Y : List Int32} {t : Nat} (h4 : t ≤ 400) (hg : gd Y t) : xI Y t t 0 [] [] 0 := ⟨⟨h4, hg⟩, by decide, Or.inl rfl, rfl, (fun q hq => by cases hq), Nat.le_refl _⟩
theorem opn_ok {Y : List Int32} {t0 : Nat} {o : sE} : ∀ (n t d : Nat) (W : List Nat) (s : Nat × Nat × List Nat), xI Y t0 t d W o 0 → opn Y n t d W = .ok s → xI Y t0 s.1 s.2.1 s.2.2 o 0 ∧ t ≤ s.1 := by
  intro n
  induction n with
  | zero => intro t d W s h e; cases e; exact ⟨h, Nat.le_refl _⟩
  | succ n ih =>
    intro t d W s h e
    unfold opn at e
    split at e
    next hk =>
      split at e
      · cases e
      · obtain ⟨t', e1, e2⟩ := bd_inv e
        obtain ⟨rfl, h4⟩ := tke_ok e1
        obtain ⟨a, b⟩ := ih _ _ _ _ (xI_open h hk (by assumption) h4) e2
        exact ⟨a, by omega⟩
    next => cases e; exact ⟨h, Nat.le_refl _⟩
theorem unt_ok {Y : List Int32} {t0 t d : Nat} {W : List Nat} {o : sE} {u : Nat × (Nat × Int32)} (h : xI Y t0 t d W o 0) (e : unt Y t = .ok u) : xI Y t0 u.1 d W (o ++ [u.2]) 1 ∧ t < u.1 := by
  unfold unt at e
  split at e
  next hk =>
    obtain ⟨t', e1, e2⟩ := bd_inv e
    obtain ⟨rfl, h4⟩ := tke_ok e1
    cases e2
    exact ⟨xI_unit h (Or.inl ⟨hk, rfl⟩) h4, Nat.lt_succ_self _⟩
  next =>
    split at e
    next hk =>
      obtain ⟨t', e1, e2⟩ := bd_inv e
      obtain ⟨rfl, h4⟩ := tke_ok e1
      cases e2
      exact ⟨xI_unit h (Or.inr ⟨hk, rfl⟩) h4, Nat.lt_succ_self _⟩
    next => cases e
theorem cls_ok {Y : List Int32} {t0 : Nat} : ∀ (n t d : Nat) (W : List Nat) (o : sE) (s : Nat × Nat × List Nat × sE), xI Y t0 t d W o 1 → cls Y n t d W o = .ok s → xI Y t0 s.1 s.2.1 s.2.2.1 s.2.2.2 1 ∧ t ≤ s.1 := by
  intro n
  induction n with
  | zero => intro t d W o s h e; cases e; exact ⟨h, Nat.le_refl _⟩
  | succ n ih =>
    intro t d W o s h e
    unfold cls at e
    split at e
    next hk =>
      obtain ⟨t', e1, e2⟩ := bd_inv e
      obtain ⟨rfl, h4⟩ := tke_ok e1
      obtain ⟨a, b⟩ := ih _ _ _ _ _ (xI_close h hk.1 hk.2 h4).2 e2
      exact ⟨a, by omega⟩
    next => cases e; exact ⟨h, Nat.le_refl _⟩
theorem un1_ok {Y : List Int32} {t0 t d : Nat} {W : List Nat} {o : sE} {s : Nat × Nat × List Nat × sE} (h : xI Y t0 t d W o 0) (e : un1 Y t d W o = .ok s) : xI Y t0 s.1 s.2.1 s.2.2.1 s.2.2.2 1 ∧ t < s.1 := by
  unfold un1 at e
  obtain ⟨s1, e1, e⟩ := bd_inv e
  obtain ⟨u, e2, e3⟩ := bd_inv e
  obtain ⟨a1, b1⟩ := opn_ok _ _ _ _ _ h e1
  obtain ⟨a2, b2⟩ := unt_ok a1 e2
  obtain ⟨a3, b3⟩ := cls_ok _ _ _ _ _ _ a2 e3
  exact ⟨a3, by omega⟩
def eOK (Y : List Int32) (t0 : Nat) (r : Nat × sE) : Prop := (r.1 ≤ 400 ∧ gd Y r.1) ∧ rW r.2 0 = some 1 ∧ e9 r.2 ∧ t0 + r.2.length ≤ r.1
theorem exL_ok {Y : List Int32} {t0 : Nat} : ∀ (n t d : Nat) (W : List Nat) (o : sE) (r : Nat × sE), xI Y t0 t d W o 0 → exL Y n t d W o = .ok r → eOK Y t0 r ∧ t < r.1 := by
  intro n
  induction n with
  | zero => intro t d W o r _ e; cases e
  | succ n ih =>
    intro t d W o r h e
    unfold exL at e
    obtain ⟨s, e1, e2⟩ := bd_inv e
    obtain ⟨a, b⟩ := un1_ok h e1
    split at e2
    next hk =>
      split at e2
      · cases e2
      · next hd =>
        cases e2
        have hd0 : s.2.1 = 0 := by omega
        rw [hd0] at a
        obtain ⟨-, c1, c2, c3⟩ := xI_end a
        exact ⟨⟨a.1, c1, c2, c3⟩, b⟩
    next hk =>
      obtain ⟨t', e3, e4⟩ := bd_inv e2
      obtain ⟨rfl, h4⟩ := tke_ok e3
      obtain ⟨c1, c2⟩ := ih _ _ _ _ _ (xI_op a hk h4) e4
      exact ⟨c1, by omega⟩
theorem exS_ok {Y : List Int32} {t : Nat} {r : Nat × sE} (h4 : t ≤ 400) (hg : gd Y t) (e : exS Y t = .ok r) : eOK Y t r ∧ t < r.1 := exL_ok 401 t 0 [] [] r (xI_0 h4 hg) e
