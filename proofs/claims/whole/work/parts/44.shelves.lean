/-! statements of the class: shelves -/
def updS (T : TS) (s : Nat) (q : Shf) : TS := (T.1, T.2.1, fun t => if t = s then q else T.2.2.1 t, T.2.2.2)
def s_show (T : TS) (s p : Int32) : Int32 × TS := if inB s 0 7 && (decide (p.toInt = -1) || hasB T.1.1.length p) then (1, updS T (nn s) (if p.toInt = -1 then none else some (.inl (nn p)))) else (rfI 0, rfT T 0)
def s_row (T : TS) (s sort n : Int32) : Int32 × TS := if inB s 0 7 && inB sort 0 4 && inB n 0 40 then (1, updS T (nn s) (some (.inr (nn sort, nn n, fun _ => 0)))) else (rfI 0, rfT T 0)
def s_set (T : TS) (s i : Int32) (z : Int64) : Int32 × TS := if inB s 0 7 then (match shfA T s with
  | none => (rfI 2, rfT T 2)
  | some (.inl _) => (rfI 1, rfT T 1)
  | some (.inr (sort, m, v)) => if 0 ≤ i.toInt ∧ i.toInt < m then (1, updS T (nn s) (some (.inr (sort, m, fun k => if k = nn i then cutL sort z else v k)))) else (rfI 0, rfT T 0)) else (rfI 0, rfT T 0)
def cpyV (v u : Nat → Int64) (i j n k : Nat) : Int64 := if j ≤ k ∧ k < j + n then v (i + (k - j)) else u k
def s_copy (T : TS) (p q i j n : Int32) : Int32 × TS := if inB p 0 7 && inB q 0 7 then (if isShB (shfA T p) || isShB (shfA T q) then (rfI 1, rfT T 1) else (match shfA T p, shfA T q with
  | some (.inr (sort, m, v)), some (.inr (sort', m', u)) => if sort = sort' then (if (0 ≤ i.toInt ∧ 0 ≤ j.toInt ∧ 0 ≤ n.toInt) ∧ (i.toInt + n.toInt ≤ m ∧ j.toInt + n.toInt ≤ m') then (n, updS T (nn q) (some (.inr (sort', m', cpyV v u (nn i) (nn j) (nn n))))) else (rfI 0, rfT T 0)) else (rfI 1, rfT T 1)
  | _, _ => (rfI 2, rfT T 2))) else (rfI 0, rfT T 0)
def a_element (T : TS) (s i : Int32) : Int64 := match shfA T s with
  | some (.inr (_, m, v)) => cellI m v i
  | _ => 0
def a_holds (T : TS) (s : Int32) : Int32 := match shfA T s with
  | none => -1
  | some (.inl p) => nI (10 + p)
  | some (.inr (sort, _, _)) => nI sort
def undB (k w : Nat) : Bool := decide (w = 0 ∨ k = w ∨ (w = 1 ∧ k = 3) ∨ (w = 2 ∧ k = 4))
def q_says (T : TS) (s w : Int32) : QR := if inB s 0 7 && inB w 0 5 then (match shfA T s with
  | none => .inl 2
  | some (.inl p) => if undB (pg T.1.1 p).1 (nn w) then .inr (nI (sayF (nn w) (pg T.1.1 p))) else .inl 1
  | some (.inr _) => .inl 1) else .inl 0
def s_back (T : TS) : Int32 × TS := if T.2.1.1 then (1, (T.2.1.2, T.2.1, (fun t => match T.2.2.1 t with
  | some (.inl p) => if p < T.2.1.2.1.length then some (.inl p) else none
  | q => q), T.2.2.2)) else (rfI 3, rfT T 3)
def a_status (T : TS) (w : Int32) : Int32 := if inB w 0 8 then (if nn w = 0 then nI T.1.1.length else if nn w = 1 then nI T.1.2.1.length else if nn w = 2 then nI T.1.2.2.1 else if nn w = 3 then nI T.1.2.2.2.1 else if nn w = 4 then nI T.1.2.2.2.2.1 else if nn w = 5 then T.1.2.2.2.2.2.1 else if nn w = 6 then nI T.2.2.2.1.length else if nn w = 7 then T.1.2.2.2.2.2.2 else nI (sumN (fun s => if (T.2.2.1 s).isSome then 1 else 0) 8)) else if inB w 12 16 then T.2.2.2.2 (nn w - 12) else -1
section SH
variable {d : Nat} {h h1 : PH} {x : Nat} {O : Nat → Prop} {T : TS} {δ : WS} {L : List Nat} {R : Nat → Nat × Nat}
theorem shfA_in {s : Nat} (hs : s < 8) : shfA T (nI s) = T.2.2.1 s := by
  unfold shfA
  rw [show inB (nI s) 0 7 = true from inB_t (n := 7) rfl (by omega) (by omega), if_pos rfl, nI_toInt (by omega)]
  rfl
theorem c_element {s i : Int32} (hX : XS h x O T) : JMt mX7_element (some .long) (d + 10) [.ref x, .int s, .int i] h (some (.long (a_element T s i))) h := by
  have hX0 := hX
  obtain ⟨hT, δ, L, R, hC⟩ := hX
  have hC0 := hC
  obtain ⟨x1, x2, x3, x4, x5, x6, x7, x8, x9, x10, x11, x12, x13⟩ := hC
  obtain ⟨o1, o2, o3, o4, o5, o6⟩ := hT.1
  have g := x1.1
  have f0 := x1.2.1
  have f3 := x1.2.2.2.2.1
  have W1 := x3.1
  have Wc := x3.2.1
  have Wp := x3.2.2.1
  have C := x3.2.2.2.1
  have Pl := x3.2.2.2.2.1
  have hw := x3.2.2.2.2.2.1
  have hm := x3.2.2.2.2.2.2.1
  have n8 := C.2.2.2.2.1
  have ok := C.2.2.2.2.2.2
  have cn := C.2.2.2.1
  have l8 := Pl.2.2.2.2.2.1
  have sz := Pl.2.2.2.2.1
  obtain ⟨r, hr, hmr⟩ := t_rowOn (d := d + 9) (s := s) hC0
  unfold a_element
  generalize shfA T s = q at hmr ⊢
  match q, hmr with
  | none, hmr => exact jm mi_X7_element (Nat.le_of_ble_eq_true rfl) rfl rfl (k_X7_element_0 hr (Or.inl rfl) g (fun _ => k_X7_element_10 k_X7_element_19) (fun i z => by rw [hmr] at z; cases z))
  | some (.inl p), hmr => exact jm mi_X7_element (Nat.le_of_ble_eq_true rfl) rfl rfl (k_X7_element_0 hr (Or.inl rfl) g (fun _ => k_X7_element_10 k_X7_element_19) (fun i z => by rw [hmr] at z; cases z))
  | some (.inr (sort, m, v)), hmr =>
    obtain ⟨q, c, e1, e2, -⟩ := hmr
    subst e1
    exact jm mi_X7_element (Nat.le_of_ble_eq_true rfl) rfl rfl (k_X7_element_0 hr (Or.inl rfl) g (fun z => by cases z) (fun i z => by cases z; exact k_X7_element_14 (t_cell e2) (Or.inl rfl) e2.1 k_X7_element_19))
theorem c_holds {s : Int32} (hX : XS h x O T) : JMt mX7_holds (some .int) (d + 10) [.ref x, .int s] h (some (.int (a_holds T s))) h := by
  have hX0 := hX
  obtain ⟨hT, δ, L, R, hC⟩ := hX
  have hC0 := hC
  obtain ⟨x1, x2, x3, x4, x5, x6, x7, x8, x9, x10, x11, x12, x13⟩ := hC
  obtain ⟨o1, o2, o3, o4, o5, o6⟩ := hT.1
  have g := x1.1
  have f0 := x1.2.1
  have f3 := x1.2.2.2.2.1
  have W1 := x3.1
  have Wc := x3.2.1
  have Wp := x3.2.2.1
  have C := x3.2.2.2.1
  have Pl := x3.2.2.2.2.1
  have hw := x3.2.2.2.2.2.1
  have hm := x3.2.2.2.2.2.2.1
  have n8 := C.2.2.2.2.1
  have ok := C.2.2.2.2.2.2
  have cn := C.2.2.2.1
  have l8 := Pl.2.2.2.2.2.1
  have sz := Pl.2.2.2.2.1
  obtain ⟨r, hr, hmr⟩ := t_rowOn (d := d + 9) (s := s) hC0
  have hS := t_isShown (d := d + 8) (s := s) hT hC0
  have f8 := x1.2.2.2.2.2.2.2.2.2.1
  have g30 := x1.2.2.2.2.2.2.2.2.2.2.2.2.1
  unfold a_holds
  by_cases hb : inB s 0 7 = true
  · obtain ⟨k, hk, rfl⟩ := inB_nI (n := 7) (by omega) hb
    have hq := x11 k (by omega)
    have hp := hT.2.2 k (by omega)
    rw [shfA_in (by omega)] at hmr hS ⊢
    generalize T.2.2.1 k = q at hmr hS hq hp ⊢
    match q, hmr, hS, hq, hp with
    | none, hmr, hS, hq, hp => exact jm mi_X7_holds (Nat.le_of_ble_eq_true rfl) ⟨.int, rfl, rfl⟩ rfl (k_X7_holds_0 hS (Or.inl rfl) g (fun _ => k_X7_holds_20 hr (Or.inl rfl) g (fun _ => k_X7_holds_30 k_X7_holds_38) (fun i z => by rw [hmr] at z; cases z)) (fun z => absurd rfl z))
    | some (.inl p), hmr, hS, hq, hp =>
      have pk : JMt mX7_pick (some .int) (d + 9) [.ref (x + 30), .int (nI k)] h (some (.int (nI p))) h := by rw [← hq.2]; exact t_pick g30 (by omega) (by omega)
      have := k_X7_holds_8 (d := d + 9) g f8 pk (Or.inl rfl)
      rw [show (10 : Int32) = nI 10 from rfl, nI_add] at this
      exact jm mi_X7_holds (Nat.le_of_ble_eq_true rfl) ⟨.int, rfl, rfl⟩ rfl (k_X7_holds_0 hS (Or.inl rfl) g (fun z => absurd z (bI_n0.mpr rfl)) (fun _ => this))
    | some (.inr (sort, m, v)), hmr, hS, hq, hp =>
      obtain ⟨q, c, e1, e2, -⟩ := hmr
      subst e1
      refine jm mi_X7_holds (Nat.le_of_ble_eq_true rfl) ⟨.int, rfl, rfl⟩ rfl (k_X7_holds_0 hS (Or.inl rfl) g (fun _ => k_X7_holds_20 hr (Or.inl rfl) g (fun z => by cases z) (fun i z => ?_)) (fun z => absurd rfl z))
      cases z
      refine k_X7_holds_34 e2.1 ?_
      rw [e2.2.1]
      exact k_X7_holds_38
  · have e : shfA T s = none := by unfold shfA; rw [if_neg hb]
    rw [e] at hmr hS ⊢
    exact jm mi_X7_holds (Nat.le_of_ble_eq_true rfl) ⟨.int, rfl, rfl⟩ rfl (k_X7_holds_0 hS (Or.inl rfl) g (fun _ => k_X7_holds_20 hr (Or.inl rfl) g (fun _ => k_X7_holds_30 k_X7_holds_38) (fun i z => by rw [hmr] at z; cases z)) (fun z => absurd rfl z))
/-- kinds above a kind -/
def kab (k : Nat) : Int32 := cget 0 k
theorem und_ok : ∀ k, k ≤ 5 → ∀ w, w ≤ 5 → ∀ i, i ≤ 5 → True := fun _ _ _ _ _ _ => trivial
def undW (w : Nat) : Nat → Int32 → Bool
  | 0, _ => false
  | m + 1, k => if inB k 0 5 then (if k = nI w then true else undW w m (cget 0 (nn k))) else false
theorem undW_ok : ∀ k, k ≤ 5 → ∀ w, w ≤ 5 → undW w 6 (nI k) = undB k w := by decide +kernel
theorem l_isUnder {w : Nat} {k0 : Int32} (hw : w ≤ 5) : ∀ m j (k : Int32), 6 - j = m → j ≤ 6 → J mX7_isUnder (d + 1) 4 [some (.int k0), some (.int (nI w)), some (.int k), some (.int (nI j))] [] h (some (.int (bI (undW w m k)))) h := by
  intro m
  induction m with
  | zero =>
    intro j k hj hl
    exact k_X7_isUnder_4 (fun _ => k_X7_isUnder_38) (fun z => absurd (nI_le (a := 6) (by omega) (by omega)) z)
  | succ m ih =>
    intro j k hj hl
    have hK := t_isKind (d := d) (h := h) (s := k)
    unfold undW
    refine k_X7_isUnder_4 (fun z => absurd z (nI_ge (b := 6) (by omega) (by omega))) (fun _ => ?_)
    cases hb : inB k 0 5 with
    | false =>
      rw [hb] at hK
      rw [if_neg (by decide)]
      exact k_X7_isUnder_10 hK (Or.inl rfl) (fun _ => k_X7_isUnder_38) (fun z => absurd rfl z)
    | true =>
      rw [hb] at hK
      rw [if_pos rfl]
      obtain ⟨i, hi, rfl⟩ := inB_nI (n := 5) (by omega) hb
      rw [nn_I (by omega)]
      refine k_X7_isUnder_10 hK (Or.inl rfl) (fun z => absurd z (by decide)) (fun _ => k_X7_isUnder_17 (fun z => k_X7_isUnder_24 (t_pickC (i := 0) (k := i) (by omega) (by show i < 6; omega) (by decide)) (Or.inl rfl) ?_) (fun z => ?_))
      · rw [if_neg z, nI_1]
        exact ih (j + 1) _ (by omega) (by omega)
      · rw [if_pos z]
        exact k_X7_isUnder_22
theorem t_isUnder {k w : Nat} (hk : k ≤ 5) (hw : w ≤ 5) : JMt mX7_isUnder (some .boolean) (d + 1) [.int (nI k), .int (nI w)] h (some (.int (bI (undB k w)))) h := by
  rw [← undW_ok k hk w hw]
  exact jm mi_X7_isUnder (Nat.le_of_ble_eq_true rfl) rB rfl (k_X7_isUnder_0 (l_isUnder (d := d) hw 6 0 (nI k) rfl (by omega)))
theorem c_says {s w : Int32} (hX : XS h x O T) : CQ mX7_says (d + 10) [.ref x, .int s, .int w] h x O T (q_says T s w) := by
  have hX0 := hX
  obtain ⟨hT, δ, L, R, hC⟩ := hX
  have hC0 := hC
  obtain ⟨x1, x2, x3, x4, x5, x6, x7, x8, x9, x10, x11, x12, x13⟩ := hC
  obtain ⟨o1, o2, o3, o4, o5, o6⟩ := hT.1
  have g := x1.1
  have f0 := x1.2.1
  have f3 := x1.2.2.2.2.1
  have W1 := x3.1
  have Wc := x3.2.1
  have Wp := x3.2.2.1
  have C := x3.2.2.2.1
  have Pl := x3.2.2.2.2.1
  have hw := x3.2.2.2.2.2.1
  have hm := x3.2.2.2.2.2.2.1
  have n8 := C.2.2.2.2.1
  have ok := C.2.2.2.2.2.2
  have cn := C.2.2.2.1
  have l8 := Pl.2.2.2.2.2.1
  have sz := Pl.2.2.2.2.1
  have f8 := x1.2.2.2.2.2.2.2.2.2.1
  have g30 := x1.2.2.2.2.2.2.2.2.2.2.2.2.1
  have hS := t_isShelf (d := d + 9) (h := h) (s := s)
  have hK := t_isKind (d := d + 9) (h := h) (s := w)
  unfold q_says
  cases hb : inB s 0 7 with
  | false =>
    rw [hb] at hS
    rw [Bool.false_and, if_neg (by decide)]
    exact cqR (k := 0) (by omega) hX0 (fun h1 r e => jm mi_X7_says (Nat.le_of_ble_eq_true rfl) ⟨.int, rfl, rfl⟩ rfl (k_X7_says_0 hS (Or.inl rfl) (fun _ => k_X7_says_14 r (Or.inl e) g) (fun z => absurd rfl z)))
  | true =>
    rw [hb] at hS
    rw [Bool.true_and]
    cases hb2 : inB w 0 5 with
    | false =>
      rw [hb2] at hK
      rw [if_neg (by decide)]
      exact cqR (k := 0) (by omega) hX0 (fun h1 r e => jm mi_X7_says (Nat.le_of_ble_eq_true rfl) ⟨.int, rfl, rfl⟩ rfl (k_X7_says_0 hS (Or.inl rfl) (fun z => absurd z (by decide)) (fun _ => k_X7_says_7 hK (Or.inl rfl) (fun z => absurd rfl z) (fun _ => k_X7_says_14 r (Or.inl e) g))))
    | true =>
      rw [hb2] at hK
      rw [if_pos rfl]
      obtain ⟨k, hk, rfl⟩ := inB_nI (n := 7) (by omega) hb
      obtain ⟨w, hw5, rfl⟩ := inB_nI (n := 5) (by omega) hb2
      rw [nn_I (by omega), shfA_in (by omega)]
      obtain ⟨r, hr, hmr⟩ := t_rowOn (d := d + 9) (s := nI k) hC0
      rw [shfA_in (by omega)] at hmr
      have hq := x11 k (by omega)
      have hp := hT.2.2 k (by omega)
      have ent : ∀ {v : Int32} {o : Option Value} {h' : PH}, RetT (some .int) o → hI h (x + 30) k = v → (r = none → J mX7_says (d + 10) 39 [some (.ref x), some (.int (nI k)), some (.int (nI w)), some (.int v)] [] h o h') → (∀ i, r = some i → J mX7_says (d + 10) 63 [some (.ref x), some (.int (nI k)), some (.int (nI w)), some (.int v)] [] h o h') → JMt mX7_says (some .int) (d + 10) [.ref x, .int (nI k), .int (nI w)] h o h' := fun rt e k1 k2 => by
        have pk : JMt mX7_pick (some .int) (d + 9) [.ref (x + 30), .int (nI k)] h (some (.int (hI h (x + 30) k))) h := t_pick g30 (by omega) (by omega)
        rw [e] at pk
        exact jm mi_X7_says (Nat.le_of_ble_eq_true rfl) rt rfl (k_X7_says_0 hS (Or.inl rfl) (fun z => absurd z (by decide)) (fun _ => k_X7_says_7 hK (Or.inl rfl) (fun _ => k_X7_says_22 g f8 pk (Or.inl rfl) hr (Or.inl rfl) g k1 k2) (fun z => absurd z (by decide))))
      generalize T.2.2.1 k = q at hmr hq hp ⊢
      match q, hmr, hq, hp with
      | none, hmr, hq, hp =>
        exact cqR (k := 2) (by omega) hX0 (fun h1 r' e => ent ⟨.int, rfl, rfl⟩ hq.2 (fun _ => k_X7_says_39 (fun _ => k_X7_says_71 (fun z => absurd rfl z) (fun _ => k_X7_says_76 r' (Or.inl e) g k_X7_says_98)) (fun z => absurd rfl z)) (fun i z => by rw [hmr] at z; cases z))
      | some (.inl p), hmr, hq, hp =>
        have hpl := hp p rfl
        have b5 := (pg_ok ok p).1
        have n1 : ¬ nI p = (-1 : Int32) := nI_nneg1 (by omega)
        dsimp only
        have mid : ∀ {o : Option Value} {h' : PH}, RetT (some .int) o → (¬ bI (undB (pg T.1.1 p).1 w) = 0 → J mX7_says (d + 10) 71 [some (.ref x), some (.int (nI k)), some (.int (nI w)), some (.int (nI p))] [] h o h') → (bI (undB (pg T.1.1 p).1 w) = 0 → J mX7_says (d + 10) 63 [some (.ref x), some (.int (nI k)), some (.int (nI w)), some (.int (nI p))] [] h o h') → JMt mX7_says (some .int) (d + 10) [.ref x, .int (nI k), .int (nI w)] h o h' := fun rt k1 k2 =>
          ent rt hq.2 (fun _ => k_X7_says_39 (fun z => absurd z n1) (fun _ => k_X7_says_44 g f0 W1 Wc (t_fact (w := 0) C hpl (by omega)) (Or.inl rfl) C.1 (t_isUnder b5 hw5) (Or.inl rfl) k1 k2)) (fun i z => by rw [hmr] at z; cases z)
        cases hu : undB (pg T.1.1 p).1 w with
        | true =>
          rw [if_pos rfl]
          exact cq0 hX0 (mid ⟨.int, rfl, rfl⟩ (fun _ => k_X7_says_71 (fun _ => k_X7_says_86 g f0 W1 Wc (t_sayingAs C hpl hw5) (Or.inl rfl) C.1 k_X7_says_98) (fun z => absurd z n1)) (fun z => absurd z (by rw [hu]; decide)))
        | false =>
          rw [if_neg (by decide)]
          exact cqR (k := 1) (by omega) hX0 (fun h1 r' e => mid ⟨.int, rfl, rfl⟩ (fun z => absurd (by rw [hu]; rfl) z) (fun _ => k_X7_says_63 r' (Or.inl e) g))
      | some (.inr (sort, m, v)), hmr, hq, hp =>
        obtain ⟨q, c, e1, e2, -⟩ := hmr
        exact cqR (k := 1) (by omega) hX0 (fun h1 r' e => ent ⟨.int, rfl, rfl⟩ hq.2.1 (fun z => by rw [e1] at z; cases z) (fun i z => k_X7_says_63 r' (Or.inl e) g))
/-- what lies outside the shelves is kept -/
theorem XC.shelf {S : Nat → Prop} {O' : Nat → Prop} {F : Nat → Shf} {R' : Nat → Nat × Nat} (hX : XC h x O T δ L R) (a : Chg S h h1) (hS : ∀ i, S i → inX x i → i = x + 29 ∨ i = x + 30) (sh : ∀ s, s < 8 → shfS h1 x O' s (R' s) (F s)) (ds : ∀ s t, s < 8 → t < 8 → s ≠ t → isRowB (F s) = true → isRowB (F t) = true → (R' s).2 ≠ (R' t).2) (hO : ∀ i, inX x i → O' i) : XC h1 x O' (T.1, T.2.1, F, T.2.2.2) δ L R' := by
  obtain ⟨x1, x2, x3, x4, x5, x6, x7, x8, x9, x10, x11, x12, x13⟩ := hX
  obtain ⟨y0, y1, y2, y3, y4, y5, y6, y7, y8, y9, y10, y11, y12, y13⟩ := x1
  have no : ∀ i, x ≤ i → i < x + 29 → ¬ S i := fun i h1 h2 hs => by have := hS i hs ⟨h1, by omega⟩; omega
  have n31 : ¬ S (x + 31) := fun hs => by have := hS _ hs ⟨by omega, by omega⟩; omega
  obtain ⟨e1, e2, e3⟩ := a.at y0 (by omega) (no x (by omega) (by omega))
  obtain ⟨u1, u2, u3, u4⟩ := x9
  obtain ⟨w1, w2, w3⟩ := a.at u1 (by omega) (no (x + 27) (by omega) (by omega))
  obtain ⟨v1, v2, v3⟩ := a.at y13 (by omega) n31
  refine ⟨⟨a.gg y0 (by omega), ?_, ?_, ?_, ?_, ?_, ?_, ?_, ?_, ?_, ?_, a.gg y11 (by omega), a.gg y12 (by omega), a.gg y13 (by omega)⟩, by rw [e1]; exact x2, x3.chg a (fun i y => no i (by unfold inW at y; omega) (by unfold inW at y; omega)), x4.chg a (fun i y => no i (by unfold inW at y; omega) (by unfold inW at y; omega)), x5.chg a (fun i y => no i (by unfold inW at y; omega) (by unfold inW at y; omega)), x6.chg a (no _ (by omega) (by omega)) (no _ (by omega) (by omega)), x7.chg a (fun i h1 h2 => no i (by omega) (by omega)), x8.chg a (no _ (by omega) (by omega)) (no _ (by omega) (by omega)), ⟨a.gg u1 (by omega), by rw [w3]; exact u2, by rw [w3]; exact u3, a.gg u4 (by omega)⟩, fun i hi => by rw [v1]; exact x10 i hi, sh, ds, hO⟩
  all_goals rw [e3]; assumption
/-- one shelf is laid anew; the others are as they were -/
theorem shfS.oth {S : Nat → Prop} {O' : Nat → Prop} {s : Nat} {rc : Nat × Nat} {q : Shf} (hq : shfS h x O s rc q) (a : Chg S h h1) (e1 : hR h1 (x + 29) s = hR h (x + 29) s) (e2 : hI h1 (x + 30) s = hI h (x + 30) s) (hr : isRowB q = true → ¬ S rc.1 ∧ ¬ S rc.2) (hO : ∀ i, O i → O' i) : shfS h1 x O' s rc q := by
  match q, hq, hr with
  | none, ⟨q1, q2⟩, _ => exact ⟨by rw [e1]; exact q1, by rw [e2]; exact q2⟩
  | some (.inl p), ⟨q1, q2⟩, _ => exact ⟨by rw [e1]; exact q1, by rw [e2]; exact q2⟩
  | some (.inr (sort, n, v)), ⟨q1, q2, q3, q4, q5⟩, hr => exact ⟨by rw [e1]; exact q1, by rw [e2]; exact q2, q3.chg a (hr rfl).1 (hr rfl).2, ⟨q4.1, hO _ q4.2⟩, ⟨q5.1, hO _ q5.2⟩⟩
theorem row_out {s : Nat} {rc : Nat × Nat} {q : Shf} (hq : shfS h x O s rc q) (hr : isRowB q = true) : x + 32 ≤ rc.1 ∧ x + 32 ≤ rc.2 ∧ rc.1 < hn h ∧ rc.2 < hn h ∧ hG h rc.1 = (4, 2) ∧ O rc.1 ∧ O rc.2 := by
  match q, hq, hr with
  | some (.inr (sort, n, v)), ⟨q1, q2, q3, q4, q5⟩, _ => exact ⟨q4.1, q5.1, (hG_lt q3.1 (by omega)).1, (hG_lt q3.2.2.2.1 (by omega)).1, q3.1, q4.2, q5.2⟩
theorem t_placeN {s : Nat} {v : Int32} (hX : XC h x O T δ L R) (hs : s < 8) : JMt mX7_place none (d + 1) [.ref x, .int (nI s), .null, .int v] h none (setI (setR h (x + 29) s none) (x + 30) s v) := by
  obtain ⟨x1, -⟩ := hX
  obtain ⟨y0, y1, y2, y3, y4, y5, y6, y7, y8, y9, y10, y11, y12, y13⟩ := x1
  have hp : JMt mX7_put none d [.ref (x + 30), .int (nI s), .int v] (setR h (x + 29) (nI s).toNatClampNeg none) none (setI (setR h (x + 29) s none) (x + 30) s v) := by rw [nI_clamp (by omega)]; exact t_put (h := setR h (x + 29) s none) y12 (by omega) hs
  exact jm mi_X7_place (Nat.le_of_ble_eq_true rfl) rfl rfl (k_X7_place_N_0 (fun z => absurd z (nI_lt0 (by omega))) (fun _ => k_X7_place_N_4 y0 y8 y11 (fun z => absurd z (nI_ge (b := 8) hs (by omega))) (fun _ => k_X7_place_N_13 y0 y8 y11 (vp_in_nI hs (by omega)) (by rw [hR_setR, if_neg (fun z => by omega)]; exact y9) hp (Or.inl rfl) k_X7_place_N_29)))
theorem t_placeR {s r : Nat} {v : Int32} (hX : XH h x) (hr : hG h r = (4, 2)) (hs : s < 8) : JMt mX7_place none (d + 1) [.ref x, .int (nI s), .ref r, .int v] h none (setI (setR h (x + 29) s (some r)) (x + 30) s v) := by
  obtain ⟨y0, y1, y2, y3, y4, y5, y6, y7, y8, y9, y10, y11, y12, y13⟩ := hX
  have hp : JMt mX7_put none d [.ref (x + 30), .int (nI s), .int v] (setR h (x + 29) (nI s).toNatClampNeg (some r)) none (setI (setR h (x + 29) s (some r)) (x + 30) s v) := by rw [nI_clamp (by omega)]; exact t_put (h := setR h (x + 29) s (some r)) y12 (by omega) hs
  exact jm mi_X7_place (Nat.le_of_ble_eq_true rfl) rfl rfl (k_X7_place_R_0 (fun z => absurd z (nI_lt0 (by omega))) (fun _ => k_X7_place_R_4 y0 y8 y11 (fun z => absurd z (nI_ge (b := 8) hs (by omega))) (fun _ => k_X7_place_R_13 y0 y8 y11 (vp_in_nI hs (by omega)) hr (by rw [hR_setR, if_neg (fun z => by omega)]; exact y9) hp (Or.inl rfl) k_X7_place_R_29)))
/-- a statement of the class that may make cells -/
def CM (M : JM) (ret : FieldType) (d : Nat) (as : List Value) (h : PH) (x : Nat) (O : Nat → Prop) (v : Value) (T' : TS) : Prop := ∃ h1 O', JMt M (some ret) d as h (some v) h1 ∧ Chg O h h1 ∧ (∀ i, i < hn h → (O' i ↔ O i)) ∧ (hn h1 ≤ hn h + 2 ∧ hs h1 ≤ hs h + 42) ∧ XS h1 x O' T'
theorem XS.own (hX : XS h x O T) : ∀ i, inX x i → O i := by
  obtain ⟨hT, δ, L, R, hC⟩ := hX
  exact hC.2.2.2.2.2.2.2.2.2.2.2.2
theorem CU.cm {M : JM} {D : Nat} {as : List Value} {v : Int32} {T' : TS} (hX : XS h x O T) (hU : CU M D as h x O v T') : CM M .int D as h x O (.int v) T' := by
  obtain ⟨h1, a, b, c⟩ := hU
  exact ⟨h1, O, a, b.chg.mono hX.own, fun i _ => Iff.rfl, ⟨by have := b.1; omega, by have := b.2.1; omega⟩, c⟩
theorem CQ.cm {M : JM} {D : Nat} {as : List Value} {q : QR} (hX : XS h x O T) (hU : CQ M D as h x O T q) : CM M .int D as h x O (.int (QA q)) (QT T q) := by
  obtain ⟨h1, a, b, c⟩ := hU
  exact ⟨h1, O, a, b.chg.mono hX.own, fun i _ => Iff.rfl, ⟨by have := b.1; omega, by have := b.2.1; omega⟩, c⟩
theorem okT_upd {s : Nat} {q : Shf} (hT : okT T) (hq : ∀ p, q = some (.inl p) → p < T.1.1.length) : okT (updS T s q) := ⟨hT.1, hT.2.1, fun t ht p hp => by
  have hp : (if t = s then q else T.2.2.1 t) = some (.inl p) := hp
  by_cases e : t = s
  · rw [if_pos e] at hp; exact hq p hp
  · rw [if_neg e] at hp; exact hT.2.2 t ht p hp⟩
theorem c_show {s p : Int32} (hX : XS h x O T) : CM mX7_show .int (d + 10) [.ref x, .int s, .int p] h x O (.int (s_show T s p).1) (s_show T s p).2 := by
  have hX0 := hX
  obtain ⟨hT, δ, L, R, hC⟩ := hX
  have hC0 := hC
  obtain ⟨x1, x2, x3, x4, x5, x6, x7, x8, x9, x10, x11, x12, x13⟩ := hC
  obtain ⟨o1, o2, o3, o4, o5, o6⟩ := hT.1
  have g := x1.1
  have f0 := x1.2.1
  have f3 := x1.2.2.2.2.1
  have W1 := x3.1
  have Wc := x3.2.1
  have Wp := x3.2.2.1
  have C := x3.2.2.2.1
  have Pl := x3.2.2.2.2.1
  have hw := x3.2.2.2.2.2.1
  have hm := x3.2.2.2.2.2.2.1
  have n8 := C.2.2.2.2.1
  have ok := C.2.2.2.2.2.2
  have cn := C.2.2.2.1
  have l8 := Pl.2.2.2.2.2.1
  have sz := Pl.2.2.2.2.1
  have hS := t_isShelf (d := d + 9) (h := h) (s := s)
  have hH := t_hasB (d := d + 9) (v := p) C
  unfold s_show
  cases hb : inB s 0 7 with
  | false =>
    rw [hb] at hS
    rw [Bool.false_and, if_neg (by decide)]
    exact CU.cm hX0 (cuR (k := 0) (by omega) hX0 (fun h1 r e => jm mi_X7_show (Nat.le_of_ble_eq_true rfl) ⟨.int, rfl, rfl⟩ rfl (k_X7_show_0 hS (Or.inl rfl) (fun _ => k_X7_show_26 r (Or.inl e) g) (fun z => absurd rfl z))))
  | true =>
    rw [hb] at hS
    rw [Bool.true_and]
    obtain ⟨k, hk, rfl⟩ := inB_nI (n := 7) (by omega) hb
    rw [nn_I (by omega)]
    have put : ∀ (q : Shf), isRowB q = false → (∀ i, q = some (.inl i) → i < T.1.1.length) → (q = none → p = -1) → (∀ i, q = some (.inl i) → p = nI i) → (∀ {h1 : PH}, JMt mX7_place none (d + 9) [.ref x, .int (nI k), .null, .int p] h none h1 → hn h1 = hn h → JMt mX7_show (some .int) (d + 10) [.ref x, .int (nI k), .int p] h (some (.int 1)) h1) → CM mX7_show .int (d + 10) [.ref x, .int (nI k), .int p] h x O (.int 1) (updS T k q) := by
      intro q hrow hq1 hq2 hq3 hj
      have hpl := t_placeN (d := d + 8) (s := k) (v := p) hC0 (by omega)
      have cg : Chg (fun i => i = x + 29 ∨ i = x + 30) h (setI (setR h (x + 29) k none) (x + 30) k p) := (Chg.setR (Or.inl rfl)).tr (Chg.setI (Or.inr rfl))
      have r29 : ∀ t, hR (setI (setR h (x + 29) k none) (x + 30) k p) (x + 29) t = if t = k then none else hR h (x + 29) t := fun t => by
        rw [hR_setI, hR_setR]
        by_cases e : t = k
        · rw [if_pos ⟨rfl, e⟩, if_pos e]
        · rw [if_neg (fun z => e z.2), if_neg e]
      have i30 : ∀ t, hI (setI (setR h (x + 29) k none) (x + 30) k p) (x + 30) t = if t = k then p else hI h (x + 30) t := fun t => by
        rw [hI_setI, hI_setR]
        by_cases e : t = k
        · rw [if_pos ⟨rfl, e⟩, if_pos e]
        · rw [if_neg (fun z => e z.2), if_neg e]
      refine ⟨_, O, hj hpl rfl, cg.mono (fun i y => x13 i (by unfold inX; omega)), fun i _ => Iff.rfl, ⟨Nat.le_add_right _ _, Nat.le_add_right _ _⟩, okT_upd hT hq1, δ, L, R, ?_⟩
      refine XC.shelf hC0 cg (fun i y _ => y) (fun t ht => ?_) (fun t u ht hu htu h1 h2 => ?_) x13
      · by_cases e : t = k
        · subst e
          show shfS _ x O t (R t) (if t = t then q else T.2.2.1 t)
          rw [if_pos rfl]
          match q, hrow, hq2, hq3 with
          | none, _, hq2, _ => exact ⟨by rw [r29, if_pos rfl], by rw [i30, if_pos rfl, hq2 rfl]⟩
          | some (.inl i), _, _, hq3 => exact ⟨by rw [r29, if_pos rfl], by rw [i30, if_pos rfl, hq3 i rfl]⟩
        · show shfS _ x O t (R t) (if t = k then q else T.2.2.1 t)
          rw [if_neg e]
          exact (x11 t ht).oth cg (by rw [r29, if_neg e]) (by rw [i30, if_neg e]) (fun hr => by have := row_out (x11 t ht) hr; exact ⟨by omega, by omega⟩) (fun i y => y)
      · have h1 : isRowB (if t = k then q else T.2.2.1 t) = true := h1
        have h2 : isRowB (if u = k then q else T.2.2.1 u) = true := h2
        by_cases e : t = k
        · rw [if_pos e, hrow] at h1; cases h1
        · by_cases e2 : u = k
          · rw [if_pos e2, hrow] at h2; cases h2
          · rw [if_neg e] at h1
            rw [if_neg e2] at h2
            exact x12 t u ht hu htu h1 h2
    by_cases hp : p.toInt = -1
    · have ep : p = -1 := Int32.toInt_inj.mp (by rw [hp]; rfl)
      rw [if_pos (by rw [decide_eq_true hp]; rfl), if_pos hp]
      exact put none rfl (fun i z => by cases z) (fun _ => ep) (fun i z => by cases z) (fun hpl e => jm mi_X7_show (Nat.le_of_ble_eq_true rfl) ⟨.int, rfl, rfl⟩ rfl (k_X7_show_0 hS (Or.inl rfl) (fun z => absurd z (by decide)) (fun _ => k_X7_show_7 (fun _ => k_X7_show_34 hpl (Or.inl e) g) (fun z => absurd ep z))))
    · have np : ¬ p = -1 := fun e => hp (by rw [e]; rfl)
      cases hh : hasB T.1.1.length p with
      | true =>
        rw [hh] at hH
        rw [if_pos (by rw [Bool.or_true]), if_neg hp]
        obtain ⟨i, hi, rfl⟩ := hasB_nI hh
        rw [nn_I (by omega)]
        exact put (some (.inl i)) rfl (fun j z => by cases z; exact hi) (fun z => by cases z) (fun j z => by cases z; rfl) (fun hpl e => jm mi_X7_show (Nat.le_of_ble_eq_true rfl) ⟨.int, rfl, rfl⟩ rfl (k_X7_show_0 hS (Or.inl rfl) (fun z => absurd z (by decide)) (fun _ => k_X7_show_7 (fun z => absurd z np) (fun _ => k_X7_show_12 g f0 W1 Wc hH (Or.inl rfl) C.1 (fun _ => k_X7_show_34 hpl (Or.inl e) g) (fun z => absurd z (by decide))))))
      | false =>
        rw [hh] at hH
        rw [if_neg (by rw [Bool.or_false, decide_eq_true_eq]; exact hp)]
        exact CU.cm hX0 (cuR (k := 0) (by omega) hX0 (fun h1 r e => jm mi_X7_show (Nat.le_of_ble_eq_true rfl) ⟨.int, rfl, rfl⟩ rfl (k_X7_show_0 hS (Or.inl rfl) (fun z => absurd z (by decide)) (fun _ => k_X7_show_7 (fun z => absurd z np) (fun _ => k_X7_show_12 g f0 W1 Wc hH (Or.inl rfl) C.1 (fun z => absurd rfl z) (fun _ => k_X7_show_26 r (Or.inl e) g))))))
theorem c_set {s i : Int32} {z : Int64} (hX : XS h x O T) : CM mX7_set .int (d + 10) [.ref x, .int s, .int i, .long z] h x O (.int (s_set T s i z).1) (s_set T s i z).2 := by
  have hX0 := hX
  obtain ⟨hT, δ, L, R, hC⟩ := hX
  have hC0 := hC
  obtain ⟨x1, x2, x3, x4, x5, x6, x7, x8, x9, x10, x11, x12, x13⟩ := hC
  obtain ⟨o1, o2, o3, o4, o5, o6⟩ := hT.1
  have g := x1.1
  have f0 := x1.2.1
  have f3 := x1.2.2.2.2.1
  have W1 := x3.1
  have Wc := x3.2.1
  have Wp := x3.2.2.1
  have C := x3.2.2.2.1
  have Pl := x3.2.2.2.2.1
  have hw := x3.2.2.2.2.2.1
  have hm := x3.2.2.2.2.2.2.1
  have n8 := C.2.2.2.2.1
  have ok := C.2.2.2.2.2.2
  have cn := C.2.2.2.1
  have l8 := Pl.2.2.2.2.2.1
  have sz := Pl.2.2.2.2.1
  have hS := t_isShelf (d := d + 9) (h := h) (s := s)
  unfold s_set
  cases hb : inB s 0 7 with
  | false =>
    rw [hb] at hS
    rw [if_neg (by decide)]
    exact CU.cm hX0 (cuR (k := 0) (by omega) hX0 (fun h1 r e => jm mi_X7_set (Nat.le_of_ble_eq_true rfl) ⟨.int, rfl, rfl⟩ rfl (k_X7_set_0 hS (Or.inl rfl) (fun z => absurd rfl z) (fun _ => k_X7_set_7 r (Or.inl e) g))))
  | true =>
    rw [hb] at hS
    rw [if_pos rfl]
    obtain ⟨k, hk, rfl⟩ := inB_nI (n := 7) (by omega) hb
    rw [nn_I (by omega), shfA_in (by omega)]
    obtain ⟨r, hr, hmr⟩ := t_rowOn (d := d + 9) (s := nI k) hC0
    have hF := t_faultOfRow (d := d + 7) (s := nI k) (l := 0) hT hC0
    rw [shfA_in (by omega)] at hmr hF
    have hq := x11 k (by omega)
    generalize hT2 : T.2.2.1 k = q at hmr hF hq ⊢
    match q, hmr, hF, hq, hT2 with
    | none, hmr, hF, hq, hT2 =>
      exact CU.cm hX0 (cuR (k := 2) (by omega) hX0 (fun h1 r' e => jm mi_X7_set (Nat.le_of_ble_eq_true rfl) ⟨.int, rfl, rfl⟩ rfl (k_X7_set_0 hS (Or.inl rfl) (fun _ => k_X7_set_15 hr (Or.inl rfl) g (fun _ => k_X7_set_27 hF (Or.inl rfl) g r' (Or.inl e) g) (fun i z => by rw [hmr] at z; cases z)) (fun z => absurd z (by decide)))))
    | some (.inl p), hmr, hF, hq, hT2 =>
      exact CU.cm hX0 (cuR (k := 1) (by omega) hX0 (fun h1 r' e => jm mi_X7_set (Nat.le_of_ble_eq_true rfl) ⟨.int, rfl, rfl⟩ rfl (k_X7_set_0 hS (Or.inl rfl) (fun _ => k_X7_set_15 hr (Or.inl rfl) g (fun _ => k_X7_set_27 hF (Or.inl rfl) g r' (Or.inl e) g) (fun i z => by rw [hmr] at z; cases z)) (fun z => absurd z (by decide)))))
    | some (.inr (sort, m, v)), hmr, hF, hq, hT2 =>
      obtain ⟨q, c, e1, e2, e3, e4, -, -, eR⟩ := hmr
      rw [show (nI k).toInt.toNat = k from nn_I (by omega)] at eR
      subst e1
      have hm40 := e2.2.2.2.2.1
      dsimp only
      have hH := tX4_has (d := d + 9) (x := i) e2
      have ent : ∀ {o : Option Value} {h' : PH} {b : Int32}, RetT (some .int) o → JMt mX4_has (some .boolean) (d + 9) [.ref q, .int i] h (some (.int b)) h → (¬ b = 0 → J mX7_set (d + 10) 55 [some (.ref x), some (.int (nI k)), some (.int i), some (.long z), none, some (.ref q)] [] h o h') → (b = 0 → J mX7_set (d + 10) 47 [some (.ref x), some (.int (nI k)), some (.int i), some (.long z), none, some (.ref q)] [] h o h') → JMt mX7_set (some .int) (d + 10) [.ref x, .int (nI k), .int i, .long z] h o h' := fun rt hH k1 k2 =>
        jm mi_X7_set (Nat.le_of_ble_eq_true rfl) rt rfl (k_X7_set_0 hS (Or.inl rfl) (fun _ => k_X7_set_15 hr (Or.inl rfl) g (fun z => by cases z) (fun j zz => by cases zz; exact k_X7_set_38 hH (Or.inl rfl) e2.1 k1 k2)) (fun z => absurd z (by decide)))
      by_cases hi : 0 ≤ i.toInt ∧ i.toInt < m
      · rw [if_pos ⟨by rw [lt0I]; omega, by rw [ltLit (by omega)]; exact hi.2⟩] at hH
        rw [if_pos hi]
        obtain ⟨i, i1, rfl⟩ := inr (x := i) (n := m) (by rw [lt0I]; omega) hi.2
        rw [nn_I (by omega)]
        have hkp := t_keep (d := d + 8) (z := z) e2 i1
        have cg : Chg (fun j => j = c) h (setL h c i (cutL sort z)) := Chg.setL rfl
        have rq := row_out hq rfl
        rw [eR] at rq
        have hcq : c ≠ q := fun e => by
          have h1 := e2.1
          have h2 := e2.2.2.2.1
          rw [e, h1] at h2
          cases h2
        refine ⟨_, O, ent ⟨.int, rfl, rfl⟩ hH (fun _ => k_X7_set_55 hkp (Or.inl rfl) e2.1) (fun z => absurd z (by decide)), cg.mono (fun j y => by rw [y]; exact e4.2), fun i _ => Iff.rfl, ⟨Nat.le_add_right _ _, Nat.le_add_right _ _⟩, okT_upd hT (fun i z => by cases z), δ, L, R, ?_⟩
        refine XC.shelf hC0 cg (fun j y hj => by unfold inX at hj; omega) (fun t ht => ?_) (fun t u ht hu htu h1 h2 => ?_) x13
        · by_cases e : t = k
          · subst e
            show shfS _ x O t (R t) (if t = t then _ else T.2.2.1 t)
            rw [if_pos rfl]
            obtain ⟨q1, q2, q3, q4, q5⟩ := hq
            rw [eR] at q1
            rw [eR]
            obtain ⟨s1, s2, s3, s4, s5, s6, s7⟩ := e2
            refine ⟨q1, q2, ⟨s1, s2, s3, s4, s5, s6, fun j hj => ?_⟩, e3, e4⟩
            rw [hL_setL]
            show _ = if j = i then cutL sort z else v j
            by_cases y : j = i
            · rw [if_pos ⟨rfl, y⟩, if_pos y]
            · rw [if_neg (fun w => y w.2), if_neg y]; exact s7 j hj
          · show shfS _ x O t (R t) (if t = k then _ else T.2.2.1 t)
            rw [if_neg e]
            refine (x11 t ht).oth cg rfl rfl (fun hr => ?_) (fun i y => y)
            have hro := row_out (x11 t ht) hr
            have hd := x12 t k ht (by omega) e hr (by rw [hT2]; rfl)
            rw [eR] at hd
            refine ⟨fun y => ?_, hd⟩
            have h1 := hro.2.2.2.2.1
            have h2 := e2.2.2.2.1
            rw [y, h2] at h1
            cases h1
        · have h1 : isRowB (if t = k then _ else T.2.2.1 t) = true := h1
          have h2 : isRowB (if u = k then _ else T.2.2.1 u) = true := h2
          refine x12 t u ht hu htu ?_ ?_
          · by_cases e : t = k
            · rw [e, hT2]; rfl
            · rw [if_neg e] at h1; exact h1
          · by_cases e : u = k
            · rw [e, hT2]; rfl
            · rw [if_neg e] at h2; exact h2
      · rw [if_neg (fun y => hi (by rw [lt0I, ltLit (by omega)] at y; omega))] at hH
        rw [if_neg hi]
        exact CU.cm hX0 (cuR (k := 0) (by omega) hX0 (fun h1 r' e => ent ⟨.int, rfl, rfl⟩ hH (fun z => absurd rfl z) (fun _ => k_X7_set_47 r' (Or.inl e) g)))
end SH
