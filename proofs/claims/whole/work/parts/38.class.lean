/-! the whole state: world, kept, shelves, tape, refusals; the class's object that holds it -/
abbrev Shf : Type := Option (Nat ⊕ (Nat × Nat × (Nat → Int64)))
abbrev TS : Type := WS × (Bool × WS) × (Nat → Shf) × List Nat × (Nat → Int32)
def inX (x : Nat) : Nat → Prop := fun i => x ≤ i ∧ i < x + 32
def isRowB (q : Shf) : Bool := match q with
  | some (.inr _) => true
  | _ => false
def shfS (h : PH) (x : Nat) (O : Nat → Prop) (s : Nat) (rc : Nat × Nat) (q : Shf) : Prop := match q with
  | none => hR h (x + 29) s = none ∧ hI h (x + 30) s = -1
  | some (.inl p) => hR h (x + 29) s = none ∧ hI h (x + 30) s = nI p
  | some (.inr (sort, n, v)) => hR h (x + 29) s = some rc.1 ∧ hI h (x + 30) s = -1 ∧ RowS h rc.1 rc.2 sort n v ∧ (x + 32 ≤ rc.1 ∧ O rc.1) ∧ (x + 32 ≤ rc.2 ∧ O rc.2)
def XH (h : PH) (x : Nat) : Prop := hG h x = (7, 11) ∧ hR h x 0 = some (x + 1) ∧ hR h x 1 = some (x + 6) ∧ hR h x 2 = some (x + 11) ∧ hR h x 3 = some (x + 16) ∧ hR h x 4 = some (x + 18) ∧ hR h x 5 = some (x + 25) ∧ hR h x 6 = some (x + 27) ∧ hR h x 7 = some (x + 29) ∧ hR h x 8 = some (x + 30) ∧ hR h x 9 = some (x + 31) ∧ hG h (x + 29) = (23, 8) ∧ hG h (x + 30) = (20, 8) ∧ hG h (x + 31) = (20, 5)
def XC (h : PH) (x : Nat) (O : Nat → Prop) (T : TS) (δ : WS) (L : List Nat) (R : Nat → Nat × Nat) : Prop :=
  XH h x ∧ hI h x 10 = bI T.2.1.1 ∧ WorldS h (x + 1) T.1 ∧ WorldS h (x + 6) T.2.1.2 ∧ WorldS h (x + 11) δ ∧ PileS h (x + 16) (x + 1 + 1) (x + 17) L ∧ LinT h (x + 18) (x + 1 + 1) ∧ TapeS h (x + 25) (x + 26) T.2.2.2.1 ∧ ReadT h (x + 27) (x + 28) (x + 25) ∧ (∀ i, i < 5 → hI h (x + 31) i = T.2.2.2.2 i) ∧ (∀ s, s < 8 → shfS h x O s (R s) (T.2.2.1 s)) ∧ (∀ s t, s < 8 → t < 8 → s ≠ t → isRowB (T.2.2.1 s) = true → isRowB (T.2.2.1 t) = true → (R s).2 ≠ (R t).2) ∧ ∀ i, inX x i → O i
def okT (T : TS) : Prop := okW T.1 ∧ okW T.2.1.2 ∧ ∀ s, s < 8 → ∀ p, T.2.2.1 s = some (.inl p) → p < T.1.1.length
def XS (h : PH) (x : Nat) (O : Nat → Prop) (T : TS) : Prop := okT T ∧ ∃ δ L R, XC h x O T δ L R
theorem XH.keep {S : Nat → Prop} {h h1 : PH} {x : Nat} (hX : XH h x) (a : Upd S h h1) : XH h1 x := by
  obtain ⟨x0, x1, x2, x3, x4, x5, x6, x7, x8, x9, x10, x11, x12, x13⟩ := hX
  exact ⟨by rw [a.gg]; exact x0, by rw [a.rr]; exact x1, by rw [a.rr]; exact x2, by rw [a.rr]; exact x3, by rw [a.rr]; exact x4, by rw [a.rr]; exact x5, by rw [a.rr]; exact x6, by rw [a.rr]; exact x7, by rw [a.rr]; exact x8, by rw [a.rr]; exact x9, by rw [a.rr]; exact x10, by rw [a.gg]; exact x11, by rw [a.gg]; exact x12, by rw [a.gg]; exact x13⟩
theorem shfS.keep {S : Nat → Prop} {h h1 : PH} {x : Nat} {O : Nat → Prop} {s : Nat} {rc : Nat × Nat} {q : Shf} (hq : shfS h x O s rc q) (a : Upd S h h1) (hS : ∀ i, S i → inX x i) (h30 : hI h1 (x + 30) s = hI h (x + 30) s) : shfS h1 x O s rc q := by
  match q, hq with
  | none, ⟨q1, q2⟩ => exact ⟨by rw [a.rr]; exact q1, by rw [h30]; exact q2⟩
  | some (.inl p), ⟨q1, q2⟩ => exact ⟨by rw [a.rr]; exact q1, by rw [h30]; exact q2⟩
  | some (.inr (sort, n, v)), ⟨q1, q2, q3, q4, q5⟩ => exact ⟨by rw [a.rr]; exact q1, by rw [h30]; exact q2, q3.chg a.chg (fun z => by have := (hS _ z).2; omega) (fun z => by have := (hS _ z).2; omega), q4, q5⟩
section XX
variable {d : Nat} {h h1 : PH} {x : Nat} {O : Nat → Prop} {T : TS} {δ : WS} {L : List Nat} {R : Nat → Nat × Nat}
theorem XC.upd {S : Nat → Prop} {σ' κ' δ' : WS} {k' : Bool} {L' B' : List Nat} {r' : Nat → Int32} (hX : XC h x O T δ L R) (a : Upd S h h1) (hS : ∀ i, S i → inX x i) (hk : hI h1 x 10 = bI k') (W : WorldS h1 (x + 1) σ') (K : WorldS h1 (x + 6) κ') (D : WorldS h1 (x + 11) δ') (Tr : PileS h1 (x + 16) (x + 1 + 1) (x + 17) L') (Z : LinT h1 (x + 18) (x + 1 + 1)) (Tp : TapeS h1 (x + 25) (x + 26) B') (h30 : hI h1 (x + 30) = hI h (x + 30)) (rf : ∀ i, i < 5 → hI h1 (x + 31) i = r' i) : XC h1 x O (σ', (k', κ'), T.2.2.1, B', r') δ' L' R := by
  obtain ⟨x1, x2, x3, x4, x5, x6, x7, x8, x9, x10, x11, x12, x13⟩ := hX
  exact ⟨x1.keep a, hk, W, K, D, Tr, Z, Tp, x9.keep a, rf, fun s hs => (x11 s hs).keep a hS (by rw [h30]), x12, x13⟩
theorem XC.pile {L' : List Nat} (hX : XC h x O T δ L R) (a : Upd (pc2 (x + 16) (x + 17)) h h1) (Tr : PileS h1 (x + 16) (x + 1 + 1) (x + 17) L') : XC h1 x O T δ L' R := by
  obtain ⟨x1, x2, x3, x4, x5, x6, x7, x8, x9, x10, x11, x12, x13⟩ := hX
  refine XC.upd (S := pc2 (x + 16) (x + 17)) ⟨x1, x2, x3, x4, x5, x6, x7, x8, x9, x10, x11, x12, x13⟩ a (fun i y => by (try simp only [inX, pc2] at y ⊢); omega) (by rw [a.2.2.2.2.2 x (by simp only [pc2]; omega)]; exact x2) (x3.keep a (fun i y => by simp only [inW, pc2] at y ⊢; omega)) (x4.keep a (fun i y => by simp only [inW, pc2] at y ⊢; omega)) (x5.keep a (fun i y => by simp only [inW, pc2] at y ⊢; omega)) (Tr) (x7.keep2 a (by simp only [pc2]; omega) (by simp only [pc2]; omega)) (x8.keep a (by simp only [pc2]; omega) (by simp only [pc2]; omega)) (a.2.2.2.2.2 _ (by simp only [pc2]; omega)) (fun i hi => by rw [a.2.2.2.2.2 (x + 31) (by simp only [pc2]; omega)]; exact x10 i hi)
theorem XC.lin (hX : XC h x O T δ L R) (a : Upd (inZ (x + 18)) h h1) (Z : LinT h1 (x + 18) (x + 1 + 1)) : XC h1 x O T δ L R := by
  obtain ⟨x1, x2, x3, x4, x5, x6, x7, x8, x9, x10, x11, x12, x13⟩ := hX
  refine XC.upd (S := inZ (x + 18)) ⟨x1, x2, x3, x4, x5, x6, x7, x8, x9, x10, x11, x12, x13⟩ a (fun i y => by (try simp only [inX, inZ] at y ⊢); omega) (by rw [a.2.2.2.2.2 x (by simp only [inZ]; omega)]; exact x2) (x3.keep a (fun i y => by simp only [inW, inZ] at y ⊢; omega)) (x4.keep a (fun i y => by simp only [inW, inZ] at y ⊢; omega)) (x5.keep a (fun i y => by simp only [inW, inZ] at y ⊢; omega)) (x6.keep a (by simp only [inZ]; omega) (by simp only [inZ]; omega)) (Z) (x8.keep a (by simp only [inZ]; omega) (by simp only [inZ]; omega)) (a.2.2.2.2.2 _ (by simp only [inZ]; omega)) (fun i hi => by rw [a.2.2.2.2.2 (x + 31) (by simp only [inZ]; omega)]; exact x10 i hi)
theorem XC.wor {σ' : WS} (hX : XC h x O T δ L R) (a : Upd (inW (x + 1)) h h1) (W : WorldS h1 (x + 1) σ') : XC h1 x O (σ', T.2) δ L R := by
  obtain ⟨x1, x2, x3, x4, x5, x6, x7, x8, x9, x10, x11, x12, x13⟩ := hX
  refine XC.upd (S := inW (x + 1)) ⟨x1, x2, x3, x4, x5, x6, x7, x8, x9, x10, x11, x12, x13⟩ a (fun i y => by (try simp only [inW, inX] at y ⊢); omega) (by rw [a.2.2.2.2.2 x (by simp only [inW]; omega)]; exact x2) (W) (x4.keep a (fun i y => by simp only [inW] at y ⊢; omega)) (x5.keep a (fun i y => by simp only [inW] at y ⊢; omega)) (x6.keep a (by simp only [inW]; omega) (by simp only [inW]; omega)) (x7.keep2 a (by simp only [inW]; omega) (by simp only [inW]; omega)) (x8.keep a (by simp only [inW]; omega) (by simp only [inW]; omega)) (a.2.2.2.2.2 _ (by simp only [inW]; omega)) (fun i hi => by rw [a.2.2.2.2.2 (x + 31) (by simp only [inW]; omega)]; exact x10 i hi)
theorem XC.dra {δ' : WS} (hX : XC h x O T δ L R) (a : Upd (rdw (x + 27) (x + 28) (x + 11)) h h1) (D : WorldS h1 (x + 11) δ') : XC h1 x O T δ' L R := by
  obtain ⟨x1, x2, x3, x4, x5, x6, x7, x8, x9, x10, x11, x12, x13⟩ := hX
  refine XC.upd (S := rdw (x + 27) (x + 28) (x + 11)) ⟨x1, x2, x3, x4, x5, x6, x7, x8, x9, x10, x11, x12, x13⟩ a (fun i y => by (try simp only [inW, inX, rdw] at y ⊢); omega) (by rw [a.2.2.2.2.2 x (by simp only [rdw, inW]; omega)]; exact x2) (x3.keep a (fun i y => by simp only [inW, rdw] at y ⊢; omega)) (x4.keep a (fun i y => by simp only [inW, rdw] at y ⊢; omega)) (D) (x6.keep a (by simp only [rdw, inW]; omega) (by simp only [rdw, inW]; omega)) (x7.keep2 a (by simp only [rdw, inW]; omega) (by simp only [rdw, inW]; omega)) (x8.keep a (by simp only [rdw, inW]; omega) (by simp only [rdw, inW]; omega)) (a.2.2.2.2.2 _ (by simp only [rdw, inW]; omega)) (fun i hi => by rw [a.2.2.2.2.2 (x + 31) (by simp only [rdw, inW]; omega)]; exact x10 i hi)
theorem XC.dr2 {δ' : WS} (hX : XC h x O T δ L R) (a : Upd (inW (x + 11)) h h1) (D : WorldS h1 (x + 11) δ') : XC h1 x O T δ' L R := by
  obtain ⟨x1, x2, x3, x4, x5, x6, x7, x8, x9, x10, x11, x12, x13⟩ := hX
  refine XC.upd (S := inW (x + 11)) ⟨x1, x2, x3, x4, x5, x6, x7, x8, x9, x10, x11, x12, x13⟩ a (fun i y => by (try simp only [inW, inX] at y ⊢); omega) (by rw [a.2.2.2.2.2 x (by simp only [inW]; omega)]; exact x2) (x3.keep a (fun i y => by simp only [inW] at y ⊢; omega)) (x4.keep a (fun i y => by simp only [inW] at y ⊢; omega)) (D) (x6.keep a (by simp only [inW]; omega) (by simp only [inW]; omega)) (x7.keep2 a (by simp only [inW]; omega) (by simp only [inW]; omega)) (x8.keep a (by simp only [inW]; omega) (by simp only [inW]; omega)) (a.2.2.2.2.2 _ (by simp only [inW]; omega)) (fun i hi => by rw [a.2.2.2.2.2 (x + 31) (by simp only [inW]; omega)]; exact x10 i hi)
theorem XC.kep {κ' : WS} (hX : XC h x O T δ L R) (a : Upd (inW (x + 6)) h h1) (K : WorldS h1 (x + 6) κ') : XC h1 x O (T.1, (T.2.1.1, κ'), T.2.2) δ L R := by
  obtain ⟨x1, x2, x3, x4, x5, x6, x7, x8, x9, x10, x11, x12, x13⟩ := hX
  refine XC.upd (S := inW (x + 6)) ⟨x1, x2, x3, x4, x5, x6, x7, x8, x9, x10, x11, x12, x13⟩ a (fun i y => by (try simp only [inW, inX] at y ⊢); omega) (by rw [a.2.2.2.2.2 x (by simp only [inW]; omega)]; exact x2) (x3.keep a (fun i y => by simp only [inW] at y ⊢; omega)) (K) (x5.keep a (fun i y => by simp only [inW] at y ⊢; omega)) (x6.keep a (by simp only [inW]; omega) (by simp only [inW]; omega)) (x7.keep2 a (by simp only [inW]; omega) (by simp only [inW]; omega)) (x8.keep a (by simp only [inW]; omega) (by simp only [inW]; omega)) (a.2.2.2.2.2 _ (by simp only [inW]; omega)) (fun i hi => by rw [a.2.2.2.2.2 (x + 31) (by simp only [inW]; omega)]; exact x10 i hi)
theorem XC.tap {B' : List Nat} (hX : XC h x O T δ L R) (a : Upd (pc2 (x + 25) (x + 26)) h h1) (Tp : TapeS h1 (x + 25) (x + 26) B') : XC h1 x O (T.1, T.2.1, T.2.2.1, B', T.2.2.2.2) δ L R := by
  obtain ⟨x1, x2, x3, x4, x5, x6, x7, x8, x9, x10, x11, x12, x13⟩ := hX
  refine XC.upd (S := pc2 (x + 25) (x + 26)) ⟨x1, x2, x3, x4, x5, x6, x7, x8, x9, x10, x11, x12, x13⟩ a (fun i y => by (try simp only [inX, pc2] at y ⊢); omega) (by rw [a.2.2.2.2.2 x (by simp only [pc2]; omega)]; exact x2) (x3.keep a (fun i y => by simp only [inW, pc2] at y ⊢; omega)) (x4.keep a (fun i y => by simp only [inW, pc2] at y ⊢; omega)) (x5.keep a (fun i y => by simp only [inW, pc2] at y ⊢; omega)) (x6.keep a (by simp only [pc2]; omega) (by simp only [pc2]; omega)) (x7.keep2 a (by simp only [pc2]; omega) (by simp only [pc2]; omega)) (Tp) (a.2.2.2.2.2 _ (by simp only [pc2]; omega)) (fun i hi => by rw [a.2.2.2.2.2 (x + 31) (by simp only [pc2]; omega)]; exact x10 i hi)
theorem XC.ref {r' : Nat → Int32} (hX : XC h x O T δ L R) (a : Upd (fun i => i = x + 31) h h1) (rf : ∀ i, i < 5 → hI h1 (x + 31) i = r' i) : XC h1 x O (T.1, T.2.1, T.2.2.1, T.2.2.2.1, r') δ L R := by
  obtain ⟨x1, x2, x3, x4, x5, x6, x7, x8, x9, x10, x11, x12, x13⟩ := hX
  refine XC.upd (S := fun i => i = x + 31) ⟨x1, x2, x3, x4, x5, x6, x7, x8, x9, x10, x11, x12, x13⟩ a (fun i y => by (try simp only [inX] at y ⊢); omega) (by rw [a.2.2.2.2.2 x (by skip; omega)]; exact x2) (x3.keep a (fun i y => by simp only [inW] at y ⊢; omega)) (x4.keep a (fun i y => by simp only [inW] at y ⊢; omega)) (x5.keep a (fun i y => by simp only [inW] at y ⊢; omega)) (x6.keep a (by skip; omega) (by skip; omega)) (x7.keep2 a (by skip; omega) (by skip; omega)) (x8.keep a (by skip; omega) (by skip; omega)) (a.2.2.2.2.2 _ (by skip; omega)) (rf)
/-- refusals: their answers, their counts -/
def rfI (k : Nat) : Int32 := match k with
  | 0 => -1002
  | 1 => -1003
  | 2 => -1004
  | 3 => -1005
  | _ => -1006
theorem rfI_ix : ∀ k, k < 5 → (-1002 : Int32) - rfI k = nI k := by decide
def rfT (T : TS) (k : Nat) : TS := (T.1, T.2.1, T.2.2.1, T.2.2.2.1, fun i => if i = k then T.2.2.2.2 k + 1 else T.2.2.2.2 i)
theorem t_refuse {k : Nat} (hk : k < 5) (hX : XC h x O T δ L R) : ∃ h1, JMt mX7_refuse (some .int) (d + 1) [.ref x, .int (rfI k)] h (some (.int (rfI k))) h1 ∧ Upd (fun i => i = x + 31) h h1 ∧ XC h1 x O (rfT T k) δ L R := by
  have hX0 := hX
  obtain ⟨x1, x2, x3, x4, x5, x6, x7, x8, x9, x10, x11, x12, x13⟩ := hX
  obtain ⟨y0, -, -, -, -, -, -, -, -, -, y10, -, -, y13⟩ := x1
  have e := rfI_ix k hk
  have hU : Upd (fun i => i = x + 31) h (setI h (x + 31) k (T.2.2.2.2 k + 1)) := Upd.set rfl
  have p1 : JMt mX7_pick (some .int) d [.ref (x + 31), .int ((-1002 : Int32) - rfI k)] h (some (.int (T.2.2.2.2 k))) h := by rw [e, ← x10 k hk]; exact t_pick y13 (by omega) hk
  have p2 : JMt mX7_put none d [.ref (x + 31), .int ((-1002 : Int32) - rfI k), .int (T.2.2.2.2 k + (1 : Int32))] h none (setI h (x + 31) k (T.2.2.2.2 k + 1)) := by rw [e]; exact t_put y13 (by omega) hk
  exact ⟨_, jm mi_X7_refuse (Nat.le_of_ble_eq_true rfl) ⟨.int, rfl, rfl⟩ rfl (k_X7_refuse_0 y0 y10 p1 (Or.inl rfl) p2 (Or.inl rfl)), hU, hX0.ref hU (fun i hi => by
    rw [hI_setI]
    show _ = if i = k then T.2.2.2.2 k + 1 else T.2.2.2.2 i
    by_cases z : i = k
    · rw [if_pos ⟨rfl, z⟩, if_pos z]
    · rw [if_neg (fun w => z w.2), if_neg z]; exact x10 i hi)⟩
theorem okT_rf {k : Nat} (hT : okT T) : okT (rfT T k) := hT
/-- an answer, or a refusal -/
abbrev QR : Type := Nat ⊕ Int32
def QA (q : QR) : Int32 := match q with
  | .inl k => rfI k
  | .inr v => v
def QT (T : TS) (q : QR) : TS := match q with
  | .inl k => rfT T k
  | .inr _ => T
/-- a question of the class: it changes only its own -/
def CQ (M : JM) (d : Nat) (as : List Value) (h : PH) (x : Nat) (O : Nat → Prop) (T : TS) (q : QR) : Prop := ∃ h1, JMt M (some .int) d as h (some (.int (QA q))) h1 ∧ Upd (inX x) h h1 ∧ XS h1 x O (QT T q)
/-- a statement of the class that makes no cell -/
def CU (M : JM) (d : Nat) (as : List Value) (h : PH) (x : Nat) (O : Nat → Prop) (v : Int32) (T' : TS) : Prop := ∃ h1, JMt M (some .int) d as h (some (.int v)) h1 ∧ Upd (inX x) h h1 ∧ XS h1 x O T'
theorem refuse_x {k : Nat} (hk : k < 5) (hX : XS h x O T) : ∃ h1, JMt mX7_refuse (some .int) (d + 1) [.ref x, .int (rfI k)] h (some (.int (rfI k))) h1 ∧ Upd (inX x) h h1 ∧ XS h1 x O (rfT T k) := by
  obtain ⟨hT, δ, L, R, hC⟩ := hX
  obtain ⟨h1, a, b, c⟩ := t_refuse (d := d) hk hC
  exact ⟨h1, a, b.mono (fun i y => by unfold inX; omega), hT, δ, L, R, c⟩
/-- bounds -/
def inB (v : Int32) (a b : Int) : Bool := decide (a ≤ v.toInt ∧ v.toInt ≤ b)
theorem inB_nI {v : Int32} {n : Nat} (hn : n < 2 ^ 31) (h : inB v 0 n = true) : ∃ k, k ≤ n ∧ v = nI k := by
  have := of_decide_eq_true h
  obtain ⟨k, h1, h2⟩ := inr (x := v) (n := n + 1) (by rw [fa_lt, show (0 : Int32).toInt = 0 from rfl]; omega) (by omega)
  exact ⟨k, by omega, h2⟩
theorem inB_t {v : Int32} {k n : Nat} (hv : v = nI k) (hk : k ≤ n) (hn : n < 2 ^ 31) : inB v 0 n = true := by
  rw [hv]
  unfold inB
  rw [nI_toInt (by omega), decide_eq_true_eq]
  omega
theorem lt0I (a : Int32) : a < 0 ↔ a.toInt < 0 := by rw [fa_lt]; rfl
theorem ltLit {a : Int32} {n : Nat} (hn : n < 2 ^ 31) : a < nI n ↔ a.toInt < n := by rw [fa_lt, nI_toInt hn]
theorem leLit {a : Int32} {n : Nat} (hn : n < 2 ^ 31) : a ≤ nI n ↔ a.toInt ≤ n := by rw [fa_le, nI_toInt hn]
theorem geLit {a : Int32} {n : Nat} (hn : n < 2 ^ 31) : nI n ≤ a ↔ (n : Int) ≤ a.toInt := by rw [fa_le, nI_toInt hn]
theorem gtLit {a : Int32} {n : Nat} (hn : n < 2 ^ 31) : nI n < a ↔ (n : Int) < a.toInt := by rw [fa_lt, nI_toInt hn]
theorem t_isShelf {s : Int32} : JMt mX7_isShelf (some .boolean) d [.int s] h (some (.int (bI (inB s 0 7)))) h := by
  refine jm mi_X7_isShelf (Nat.le_of_ble_eq_true rfl) rB rfl (k_X7_isShelf_0 (fun q => ?_) (fun q => k_X7_isShelf_4 (fun q2 => ?_) (fun q2 => ?_)))
  · rw [lt0I] at q
    rw [show inB s 0 7 = false from decide_eq_false (by omega)]; exact k_X7_isShelf_14 k_X7_isShelf_15
  · rw [show (8 : Int32) = nI 8 from rfl, geLit (by omega)] at q2
    rw [show inB s 0 7 = false from decide_eq_false (by omega)]; exact k_X7_isShelf_14 k_X7_isShelf_15
  · rw [lt0I] at q
    rw [show (8 : Int32) = nI 8 from rfl, geLit (by omega)] at q2
    rw [show inB s 0 7 = true from decide_eq_true (by omega)]; exact k_X7_isShelf_10 k_X7_isShelf_15
theorem t_isKind {s : Int32} : JMt mX7_isKind (some .boolean) d [.int s] h (some (.int (bI (inB s 0 5)))) h := by
  refine jm mi_X7_isKind (Nat.le_of_ble_eq_true rfl) rB rfl (k_X7_isKind_0 (fun q => ?_) (fun q => k_X7_isKind_4 (fun q2 => ?_) (fun q2 => ?_)))
  · rw [lt0I] at q
    rw [show inB s 0 5 = false from decide_eq_false (by omega)]; exact k_X7_isKind_14 k_X7_isKind_15
  · rw [show (6 : Int32) = nI 6 from rfl, geLit (by omega)] at q2
    rw [show inB s 0 5 = false from decide_eq_false (by omega)]; exact k_X7_isKind_14 k_X7_isKind_15
  · rw [lt0I] at q
    rw [show (6 : Int32) = nI 6 from rfl, geLit (by omega)] at q2
    rw [show inB s 0 5 = true from decide_eq_true (by omega)]; exact k_X7_isKind_10 k_X7_isKind_15
theorem t_isLength {s : Int32} : JMt mX7_isLength (some .boolean) d [.int s] h (some (.int (bI (inB s 0 40)))) h := by
  refine jm mi_X7_isLength (Nat.le_of_ble_eq_true rfl) rB rfl (k_X7_isLength_0 (fun q => ?_) (fun q => k_X7_isLength_4 (fun q2 => ?_) (fun q2 => ?_)))
  · rw [lt0I] at q
    rw [show inB s 0 40 = false from decide_eq_false (by omega)]; exact k_X7_isLength_14 k_X7_isLength_15
  · rw [show (40 : Int32) = nI 40 from rfl, gtLit (by omega)] at q2
    rw [show inB s 0 40 = false from decide_eq_false (by omega)]; exact k_X7_isLength_14 k_X7_isLength_15
  · rw [lt0I] at q
    rw [show (40 : Int32) = nI 40 from rfl, gtLit (by omega)] at q2
    rw [show inB s 0 40 = true from decide_eq_true (by omega)]; exact k_X7_isLength_10 k_X7_isLength_15
theorem t_isTime {s : Int32} : JMt mX7_isTime (some .boolean) d [.int s] h (some (.int (bI (inB s 1 60)))) h := by
  refine jm mi_X7_isTime (Nat.le_of_ble_eq_true rfl) rB rfl (k_X7_isTime_0 (fun q => ?_) (fun q => k_X7_isTime_5 (fun q2 => ?_) (fun q2 => ?_)))
  · rw [show (1 : Int32) = nI 1 from rfl, ltLit (by omega)] at q
    rw [show inB s 1 60 = false from decide_eq_false (by omega)]; exact k_X7_isTime_15 k_X7_isTime_16
  · rw [show (60 : Int32) = nI 60 from rfl, gtLit (by omega)] at q2
    rw [show inB s 1 60 = false from decide_eq_false (by omega)]; exact k_X7_isTime_15 k_X7_isTime_16
  · rw [show (1 : Int32) = nI 1 from rfl, ltLit (by omega)] at q
    rw [show (60 : Int32) = nI 60 from rfl, gtLit (by omega)] at q2
    rw [show inB s 1 60 = true from decide_eq_true (by omega)]; exact k_X7_isTime_11 k_X7_isTime_16
/-- is it a person, of n -/
def hasB (n : Nat) (v : Int32) : Bool := decide (0 ≤ v.toInt ∧ v.toInt < n)
theorem hasB_nI {v : Int32} {n : Nat} (h : hasB n v = true) : ∃ k, k < n ∧ v = nI k := by
  have := of_decide_eq_true h
  exact inr (by rw [lt0I]; omega) (by omega)
theorem hasB_t {v : Int32} {k n : Nat} (hv : v = nI k) (hk : k < n) (hn : n < 2 ^ 31) : hasB n v = true := by
  rw [hv]
  unfold hasB
  rw [nI_toInt (by omega), decide_eq_true_eq]
  omega
theorem t_hasB {c f : Nat} {P : List Pers} {v : Int32} (hC : CrowdS h c f P) : JMt mX0_has (some .boolean) d [.ref c, .int v] h (some (.int (bI (hasB P.length v)))) h := by
  have h8 := hC.2.2.2.2.1
  have := t_has (d := d) (x := v) hC
  have e : (if ¬ v < 0 ∧ v < nI P.length then (1 : Int32) else 0) = bI (hasB P.length v) := by
    unfold hasB bI
    by_cases z : ¬ v < 0 ∧ v < nI P.length
    · have z' := z
      rw [lt0I, ltLit (by omega)] at z'
      rw [if_pos z, if_pos (decide_eq_true (by omega))]
    · have z' := z
      rw [lt0I, ltLit (by omega)] at z'
      rw [if_neg z, if_neg (by rw [decide_eq_true_eq]; omega)]
  rw [e] at this
  exact this
/-- who is at a course told -/
def onI (L : List Nat) (a : Int32) : Int32 := if 0 ≤ a.toInt ∧ a.toInt < L.length then nI (L.getD a.toInt.toNat 0) else -1
theorem onI_nI {L : List Nat} {k : Nat} (hk : k < L.length) (hL : L.length ≤ 8) : onI L (nI k) = nI (L.getD k 0) := by
  unfold onI
  rw [nI_toInt (by omega), if_pos (by omega)]
  rfl
theorem t_onC {p c o : Nat} {K : List Nat} {a : Int32} (hP : PileS h p c o K) : JMt mX2_onCourse (some .int) (d + 1) [.ref p, .int a] h (some (.int (onI K a))) h := by
  have hl := hP.2.2.2.2.2.1
  by_cases z : 0 ≤ a.toInt ∧ a.toInt < K.length
  · obtain ⟨k, k1, rfl⟩ := inr (x := a) (n := K.length) (by rw [lt0I]; omega) z.2
    rw [onI_nI k1 hl]
    exact t_onCourse hP k1
  · unfold onI
    rw [if_neg z]
    refine t_onCourseN hP ?_
    rw [lt0I, geLit (by omega)]
    omega
/-- the trial pile with one put on top, with a course out -/
theorem t_trial (hX : XC h x O T δ L R) : ∃ h1, JMt mX2_takeFrom none (d + 1) [.ref (x + 16), .ref (x + 1 + 3)] h none h1 ∧ Upd (pc2 (x + 16) (x + 17)) h h1 ∧ XC h1 x O T δ T.1.2.1 R := by
  have hX0 := hX
  obtain ⟨x1, x2, x3, x4, x5, x6, x7, x8, x9, x10, x11, x12, x13⟩ := hX
  obtain ⟨h1, a, b, c⟩ := t_pileTake (d := d) x6 x3.2.2.2.2.1 (by omega) (by omega)
  exact ⟨h1, a, b, hX0.pile b c⟩
theorem t_tryOnTop {p : Nat} (hX : XC h x O T δ L R) (hl : T.1.2.1.length < 8) : ∃ h1, JMt mX7_tryOnTop none (d + 3) [.ref x, .int (nI p)] h none h1 ∧ Upd (pc2 (x + 16) (x + 17)) h h1 ∧ XC h1 x O T δ (insL T.1.2.1 T.1.2.1.length p) R := by
  obtain ⟨h1, a, b, c⟩ := t_trial (d := d + 1) hX
  have c0 := c
  obtain ⟨y1, y2, y3, y4, y5, y6, y7, y8, y9, y10, y11, y12, y13⟩ := c
  obtain ⟨h2, a2, b2, c2⟩ := t_push (d := d) (x := p) y6 hl
  obtain ⟨x1, x2, x3, x4, x5, x6, -⟩ := hX
  exact ⟨h2, jm mi_X7_tryOnTop (Nat.le_of_ble_eq_true rfl) rfl rfl (k_X7_tryOnTop_0 x1.1 x1.2.2.2.2.1 x1.2.1 x3.1 x3.2.2.1 a (Or.inl b.1) x6.1 y1.1 y1.2.2.2.2.1 a2 (Or.inl b2.1) y6.1), b.tr b2, c0.pile b2 c2⟩
theorem t_tryWithout {k : Nat} (hX : XC h x O T δ L R) (hk : k < T.1.2.1.length) : ∃ h1, JMt mX7_tryWithout none (d + 2) [.ref x, .int (nI k)] h none h1 ∧ Upd (pc2 (x + 16) (x + 17)) h h1 ∧ XC h1 x O T δ (delL T.1.2.1 k) R := by
  obtain ⟨h1, a, b, c⟩ := t_trial (d := d) hX
  have c0 := c
  obtain ⟨y1, y2, y3, y4, y5, y6, y7, y8, y9, y10, y11, y12, y13⟩ := c
  obtain ⟨h2, a2, b2, c2⟩ := t_removeAt (d := d) (k := k) y6 hk
  obtain ⟨x1, x2, x3, x4, x5, x6, -⟩ := hX
  exact ⟨h2, jm mi_X7_tryWithout (Nat.le_of_ble_eq_true rfl) rfl rfl (k_X7_tryWithout_0 x1.1 x1.2.2.2.2.1 x1.2.1 x3.1 x3.2.2.1 a (Or.inl b.1) x6.1 y1.1 y1.2.2.2.2.1 a2 (Or.inl b2.1) y6.1), b.tr b2, c0.pile b2 c2⟩
theorem pcX {i : Nat} (y : pc2 (x + 16) (x + 17) i) : inX x i := by unfold pc2 at y; unfold inX; omega
theorem t_isSetX {s : Int32} (hX : XC h x O T δ L R) : JMt mX7_isSet (some .boolean) (d + 1) [.ref x, .int s] h (some (.int (bI (inB s 0 ((2 ^ T.1.1.length : Nat) - 1))))) h := by
  obtain ⟨x1, x2, x3, -⟩ := hX
  have hC := x3.2.2.2.1
  have h8 := hC.2.2.2.2.1
  have h256 := pow_le8 h8
  have hp := Nat.two_pow_pos T.1.1.length
  have no : inB s 0 ((2 ^ T.1.1.length : Nat) - 1) = false → J mX7_isSet (d + 1) 25 [some (.ref x), some (.int s)] [] h (some (.int (bI (inB s 0 ((2 ^ T.1.1.length : Nat) - 1))))) h := fun e => by rw [e]; exact k_X7_isSet_25 k_X7_isSet_26
  refine jm mi_X7_isSet (Nat.le_of_ble_eq_true rfl) rB rfl (k_X7_isSet_0 (fun q => no ?_) (fun q => k_X7_isSet_4 x1.1 x1.2.1 x3.1 x3.2.1 hC.1 (by rw [hC.2.2.2.1]; exact t_bit h8) (Or.inl rfl) (fun q2 => no ?_) (fun q2 => ?_)))
  · rw [lt0I] at q
    exact decide_eq_false (by omega)
  · rw [geLit (by omega)] at q2
    exact decide_eq_false (by omega)
  · rw [lt0I] at q
    rw [geLit (by omega)] at q2
    rw [show inB s 0 ((2 ^ T.1.1.length : Nat) - 1) = true from decide_eq_true (by omega)]
    exact k_X7_isSet_21 k_X7_isSet_26
/-! shelves -/
def shfA (T : TS) (s : Int32) : Shf := if inB s 0 7 then T.2.2.1 s.toInt.toNat else none
theorem t_rowOn {s : Int32} (hX : XC h x O T δ L R) : ∃ r : Option Nat, JMt mX7_rowOn (some (.object RX4)) d [.ref x, .int s] h (some (qv r)) h ∧ (match shfA T s with
    | some (.inr (sort, n, v)) => ∃ q c, r = some q ∧ RowS h q c sort n v ∧ (x + 32 ≤ q ∧ O q) ∧ (x + 32 ≤ c ∧ O c) ∧ s = nI s.toInt.toNat ∧ s.toInt.toNat < 8 ∧ R s.toInt.toNat = (q, c)
    | _ => r = none) := by
  obtain ⟨x1, x2, x3, x4, x5, x6, x7, x8, x9, x10, x11, x12, x13⟩ := hX
  obtain ⟨y0, -, -, -, -, -, -, -, y7, -, -, y11, -, -⟩ := x1
  have rt : ∀ r : Option Nat, RetT (some (.object RX4)) (some (qv r)) := fun r => by
    cases r with
    | none => exact ⟨_, rfl, Or.inl ⟨_, rfl⟩⟩
    | some q => exact ⟨_, rfl, Or.inl ⟨_, rfl⟩⟩
  unfold shfA
  cases hs : inB s 0 7 with
  | false =>
    have hs := of_decide_eq_false hs
    refine ⟨none, jm mi_X7_rowOn (Nat.le_of_ble_eq_true rfl) (rt none) rfl (k_X7_rowOn_0 (fun _ => k_X7_rowOn_22 k_X7_rowOn_23) (fun q => k_X7_rowOn_4 y0 y7 y11 (fun _ => k_X7_rowOn_22 k_X7_rowOn_23) (fun q2 => ?_))), by rw [if_neg (by decide)]⟩
    rw [lt0I] at q
    rw [show Int32.ofNat 8 = nI 8 from rfl, geLit (by omega)] at q2
    omega
  | true =>
    rw [if_pos rfl]
    obtain ⟨k, hk, rfl⟩ := inB_nI (n := 7) (by omega) hs
    have ek : (nI k).toInt.toNat = k := by rw [nI_toInt (by omega)]; rfl
    have go : JMt mX7_rowOn (some (.object RX4)) d [.ref x, .int (nI k)] h (some (qv (hR h (x + 29) k))) h := by
      have : JMt mX7_rowOn (some (.object RX4)) d [.ref x, .int (nI k)] h (some (qv (hR h (x + 29) (nI k).toNatClampNeg))) h := jm mi_X7_rowOn (Nat.le_of_ble_eq_true rfl) (rt (hR h (x + 29) (nI k).toNatClampNeg)) rfl (k_X7_rowOn_0 (fun q => absurd q (nI_lt0 (by omega))) (fun q => k_X7_rowOn_4 y0 y7 y11 (fun q => absurd q (nI_ge (b := 8) (by omega) (by omega))) (fun q2 => k_X7_rowOn_13 y0 y7 y11 (vp_in_nI (by omega) (by omega)) k_X7_rowOn_23)))
      rw [nI_clamp (by omega)] at this
      exact this
    rw [ek]
    have hq := x11 k (by omega)
    refine ⟨_, go, ?_⟩
    generalize T.2.2.1 k = q at hq
    match q, hq with
    | none, ⟨q1, q2⟩ => exact q1
    | some (.inl p), ⟨q1, q2⟩ => exact q1
    | some (.inr (sort, n, v)), ⟨q1, q2, q3, q4, q5⟩ => exact ⟨_, _, q1, q3, q4, q5, rfl, by omega, rfl⟩
def isShB (q : Shf) : Bool := match q with
  | some (.inl _) => true
  | _ => false
theorem t_isShown {s : Int32} (hT : okT T) (hX : XC h x O T δ L R) : JMt mX7_isShown (some .boolean) (d + 1) [.ref x, .int s] h (some (.int (bI (isShB (shfA T s))))) h := by
  obtain ⟨x1, x2, x3, x4, x5, x6, x7, x8, x9, x10, x11, x12, x13⟩ := hX
  obtain ⟨y0, -, -, -, -, -, -, -, -, y8, -, -, y12, -⟩ := x1
  have h8 := x3.2.2.2.1.2.2.2.2.1
  have hS := t_isShelf (d := d) (h := h) (s := s)
  unfold shfA
  cases hs : inB s 0 7 with
  | false =>
    rw [hs] at hS
    rw [if_neg (by decide)]
    exact jm mi_X7_isShown (Nat.le_of_ble_eq_true rfl) rB rfl (k_X7_isShown_0 hS (Or.inl rfl) (fun _ => k_X7_isShown_23 k_X7_isShown_24) (fun q => absurd rfl q))
  | true =>
    rw [hs] at hS
    rw [if_pos rfl]
    obtain ⟨k, hk, rfl⟩ := inB_nI (n := 7) (by omega) hs
    have ek : (nI k).toInt.toNat = k := by rw [nI_toInt (by omega)]; rfl
    rw [ek]
    have hq := x11 k (by omega)
    have hp := fun p => hT.2.2 k (by omega) p
    have go : ∀ v b, hI h (x + 30) k = v → (v = -1 ↔ b = false) → JMt mX7_isShown (some .boolean) (d + 1) [.ref x, .int (nI k)] h (some (.int (bI b))) h := fun v b e eb => by
      have pk : JMt mX7_pick (some .int) d [.ref (x + 30), .int (nI k)] h (some (.int v)) h := by rw [← e]; exact t_pick y12 (by omega) (by omega)
      refine jm mi_X7_isShown (Nat.le_of_ble_eq_true rfl) rB rfl (k_X7_isShown_0 hS (Or.inl rfl) (fun q => absurd q (by decide)) (fun _ => k_X7_isShown_7 y0 y8 pk (Or.inl rfl) (fun q => ?_) (fun q => ?_)))
      · rw [eb.mp q]; exact k_X7_isShown_23 k_X7_isShown_24
      · cases b with
        | true => exact k_X7_isShown_19 k_X7_isShown_24
        | false => exact absurd (eb.mpr rfl) q
    generalize T.2.2.1 k = q at hq hp
    match q, hq, hp with
    | none, ⟨q1, q2⟩, _ => exact go _ _ q2 ⟨fun _ => rfl, fun _ => rfl⟩
    | some (.inl p), ⟨q1, q2⟩, hp => exact go _ true q2 ⟨fun z => absurd z (nI_nneg1 (by have := hp p rfl; omega)), fun z => by cases z⟩
    | some (.inr (sort, n, v)), ⟨q1, q2, q3, q4, q5⟩, _ => exact go _ _ q2 ⟨fun _ => rfl, fun _ => rfl⟩
/-- why a shelf doesn't serve as a row of so many -/
def fltI (q : Shf) (l : Int32) : Int32 := match q with
  | none => -1004
  | some (.inl _) => -1003
  | some (.inr (_, n, _)) => if l ≤ nI n then 0 else -1002
theorem t_faultOfRow {s l : Int32} (hT : okT T) (hX : XC h x O T δ L R) : JMt mX7_faultOfRow (some .int) (d + 2) [.ref x, .int s, .int l] h (some (.int (fltI (shfA T s) l))) h := by
  have hX0 := hX
  obtain ⟨r, hr, hm⟩ := t_rowOn (d := d + 1) (s := s) hX
  have hS := t_isShown (d := d) (s := s) hT hX0
  have y0 := hX.1.1
  generalize shfA T s = q at hm hS
  match q, hm, hS with
  | none, hm, hS =>
    exact jm mi_X7_faultOfRow (Nat.le_of_ble_eq_true rfl) ⟨.int, rfl, rfl⟩ rfl (k_X7_faultOfRow_0 hr (Or.inl rfl) y0 (fun _ => k_X7_faultOfRow_10 hS (Or.inl rfl) y0 (fun _ => k_X7_faultOfRow_24 k_X7_faultOfRow_27) (fun z => absurd rfl z)) (fun i z => by rw [hm] at z; cases z))
  | some (.inl p), hm, hS =>
    exact jm mi_X7_faultOfRow (Nat.le_of_ble_eq_true rfl) ⟨.int, rfl, rfl⟩ rfl (k_X7_faultOfRow_0 hr (Or.inl rfl) y0 (fun _ => k_X7_faultOfRow_10 hS (Or.inl rfl) y0 (fun z => absurd z (bI_n0.mpr rfl)) (fun _ => k_X7_faultOfRow_18 k_X7_faultOfRow_27)) (fun i z => by rw [hm] at z; cases z))
  | some (.inr (sort, n, v)), hm, hS =>
    obtain ⟨q, c, e1, e2, -⟩ := hm
    subst e1
    refine jm mi_X7_faultOfRow (Nat.le_of_ble_eq_true rfl) ⟨.int, rfl, rfl⟩ rfl (k_X7_faultOfRow_0 hr (Or.inl rfl) y0 (fun z => by cases z) (fun i z => ?_))
    cases z
    refine k_X7_faultOfRow_28 e2.1 e2.2.2.1 e2.2.2.2.1 (fun z => ?_) (fun z => ?_)
    · rw [show fltI (some (.inr (sort, n, v))) l = 0 from if_pos z]; exact k_X7_faultOfRow_43 k_X7_faultOfRow_44
    · rw [show fltI (some (.inr (sort, n, v))) l = -1002 from if_neg z]; exact k_X7_faultOfRow_37 k_X7_faultOfRow_44
end XX
