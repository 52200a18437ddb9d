/-! orders, highest, glad, ends, backs; told climbs -/
def q_orders (σ : WS) (s i : Int32) : QR := if inB s 0 ((2 ^ σ.1.length : Nat) - 1) && decide (-1 ≤ i.toInt) then (if i.toInt = -1 then .inr (nI (ways σ.1.length (nn s) (okS σ.1 σ.2.2.1 (nn s)) 0)) else if i.toInt < popN (nn s) ∧ 0 < ways σ.1.length (nn s) (okS σ.1 σ.2.2.1 (nn s)) 0 then .inr (nI (nxtF σ.1.length (nn s) (okS σ.1 σ.2.2.1 (nn s)) (grdF σ.1.length (nn s) (okS σ.1 σ.2.2.1 (nn s)) (nn i)))) else .inl 3) else .inl 0
def q_highest (σ : WS) (w : Int32) : QR := if inB w 0 1 then .inr (nI (if nn w = 0 then hiF σ.1 σ.2.2.2.1 σ.2.2.1 (2 ^ σ.1.length - 1) else tallS σ.1 (hiF σ.1 σ.2.2.2.1 σ.2.2.1 (2 ^ σ.1.length - 1)))) else .inl 0
def q_glad (σ : WS) (s : Int32) : QR := if inB s 0 ((2 ^ σ.1.length : Nat) - 1) then .inr (sI (gladT σ.1 (nn s) (okS σ.1 σ.2.2.1 (nn s)))) else .inl 0
def q_ends (σ : WS) (s w : Int32) : QR := if inB s 0 ((2 ^ σ.1.length : Nat) - 1) && inB w 0 1 then .inr (nI (if nn w = 0 then mkN (leadB σ.1.length (nn s) (okS σ.1 σ.2.2.1 (nn s)) 0) σ.1.length else lasts σ.1.length (nn s) (okS σ.1 σ.2.2.1 (nn s)) 0)) else .inl 0
def q_backs (T : TS) (s set w : Int32) : QR := if inB s 0 7 && inB set 0 ((2 ^ T.1.1.length : Nat) - 1) && inB w 0 2 then (match shfA T s with
  | none => .inl 2
  | some (.inl _) => .inl 1
  | some (.inr (_, m, v)) => if popN (nn set) ≤ m then .inr (nI (if nn w = 0 then ways T.1.1.length (nn set) (okB T.1.1 m v (nn set)) 0 else if nn w = 1 then mkN (leadB T.1.1.length (nn set) (okB T.1.1 m v (nn set)) 0) T.1.1.length else lasts T.1.1.length (nn set) (okB T.1.1 m v (nn set)) 0)) else .inl 0) else .inl 0
/-- told numbers: whether one can't climb as told -/
def badB (σ : WS) (z : Int64) (L : List Nat) : Bool := !decide (0 ≤ z.toInt ∧ z.toInt < σ.1.length) || ((courseF L z.toInt.toNat 0).isSome || decide (σ.2.2.2.1 ≤ L.length))
def wrgF (σ : WS) (v : Nat → Int64) : Nat → Nat → List Nat → Option Nat
  | 0, _, _ => none
  | m + 1, i, L => if badB σ (v i) L then some i else wrgF σ v m (i + 1) (insL L L.length (v i).toInt.toNat)
def brkF (σ : WS) (v : Nat → Int64) : Nat → Nat → List Nat → Option Nat
  | 0, _, _ => none
  | m + 1, i, L => if firmB σ.1 σ.2.2.1 (insL L L.length (v i).toInt.toNat) then brkF σ v m (i + 1) (insL L L.length (v i).toInt.toNat) else some i
def q_judge (T : TS) (s n : Int32) : QR := if inB s 0 7 && inB n 0 40 then (match shfA T s with
  | none => .inl 2
  | some (.inl _) => .inl 1
  | some (.inr (_, m, v)) => if nn n ≤ m then .inr (oI (wrgF T.1 v (nn n) 0 T.1.2.1)) else .inl 0) else .inl 0
def q_breaks (T : TS) (s n : Int32) : QR := if inB s 0 7 && inB n 0 40 then (match shfA T s with
  | none => .inl 2
  | some (.inl _) => .inl 1
  | some (.inr (_, m, v)) => if nn n ≤ m then (if (wrgF T.1 v (nn n) 0 T.1.2.1).isSome then .inl 3 else .inr (oI (brkF T.1 v (nn n) 0 T.1.2.1))) else .inl 0) else .inl 0
theorem long_I {z : Int64} {n : Nat} (hn : n ≤ 8) (h : 0 ≤ z.toInt ∧ z.toInt < n) : z.toInt32 = nI z.toInt.toNat := by
  apply Int32.toInt_inj.mp
  rw [nI_toInt (by omega), Int64.toInt_toInt32]
  have : z.toInt.bmod (2 ^ 32) = z.toInt := Int.bmod_eq_of_le (by omega) (by omega)
  rw [this]
  omega
theorem wrgF_lt {σ : WS} {v : Nat → Int64} : ∀ m i L k, wrgF σ v m i L = some k → k < i + m
  | 0, _, _, _, h => by cases h
  | m + 1, i, L, k, h => by
    unfold wrgF at h
    split at h
    · cases h; omega
    · have := wrgF_lt m _ _ _ h; omega
section QL
variable {d : Nat} {h : PH} {x : Nat} {O : Nat → Prop} {T : TS} {δ : WS} {L : List Nat} {R : Nat → Nat × Nat}
theorem cqL {M : JM} {as : List Value} {v : Int32} {D : Nat} (hT : okT T) (hj : ∃ h1, JMt M (some .int) D as h (some (.int v)) h1 ∧ Upd (inZ (x + 18)) h h1 ∧ XC h1 x O T δ L R) : CQ M D as h x O T (.inr v) := by
  obtain ⟨h1, a, b, c⟩ := hj
  exact ⟨h1, a, b.mono (fun i y => by unfold inZ at y; unfold inX; omega), hT, δ, L, R, c⟩
/-- letStand on the state -/
theorem x_letStand {S : Nat} (hT : okT T) (hC : XC h x O T δ L R) (hS : S < 2 ^ T.1.1.length) : ∃ h1, JMt mX1_letStand none (d + 3) [.ref (x + 18), .int (nI S), .int (nI T.1.2.2.1)] h none h1 ∧ Upd (inZ (x + 18)) h h1 ∧ XC h1 x O T δ L R ∧ ExpS h1 (x + 18) T.1.1.length S (okS T.1.1 T.1.2.2.1 S) := by
  obtain ⟨x1, x2, x3, x4, x5, x6, x7, -⟩ := id hC
  obtain ⟨h1, a, b, c, e, f⟩ := t_letStand (d := d) (w := T.1.2.2.1) x7 x3.2.2.2.1 (by unfold inZ; omega) (by unfold inZ; omega) hS hT.1.2.2.2.1
  exact ⟨h1, a, b, hC.lin b c, f⟩
theorem setB {n : Nat} {s : Int32} (h8 : n ≤ 8) (h : inB s 0 ((2 ^ n : Nat) - 1) = true) : ∃ k, k < 2 ^ n ∧ s = nI k ∧ k < 256 := by
  have hp := Nat.two_pow_pos n
  have h256 := pow_le8 h8
  have e : ((2 ^ n : Nat) : Int) - 1 = ((2 ^ n - 1 : Nat) : Int) := by omega
  rw [e] at h
  obtain ⟨k, h1, h2⟩ := inB_nI (by omega) h
  exact ⟨k, by omega, h2, by omega⟩
theorem c_orders {s i : Int32} (hX : XS h x O T) : CQ mX7_orders (d + 10) [.ref x, .int s, .int i] h x O T (q_orders T.1 s i) := by
  have hX0 := hX
  obtain ⟨hT, δ, L, R, hC⟩ := hX
  have hC0 := hC
  obtain ⟨x1, x2, x3, x4, x5, x6, x7, x8, x9, x10, x11, x12, x13⟩ := hC
  obtain ⟨o1, o2, o3, o4, o5, o6⟩ := hT.1
  have g := x1.1
  have f0 := x1.2.1
  have f3 := x1.2.2.2.2.1
  have W1 := x3.1
  have Wc := x3.2.1
  have Wp := x3.2.2.1
  have C := x3.2.2.2.1
  have Pl := x3.2.2.2.2.1
  have hw := x3.2.2.2.2.2.1
  have hm := x3.2.2.2.2.2.2.1
  have n8 := C.2.2.2.2.1
  have ok := C.2.2.2.2.2.2
  have cn := C.2.2.2.1
  have l8 := Pl.2.2.2.2.2.1
  have sz := Pl.2.2.2.2.1
  have hS := t_isSetX (d := d + 8) (s := s) hC0
  have f4 := x1.2.2.2.2.2.1
  unfold q_orders
  cases hb : inB s 0 ((2 ^ T.1.1.length : Nat) - 1) with
  | false =>
    rw [hb] at hS
    rw [Bool.false_and, if_neg (by decide)]
    exact cqR (k := 0) (by omega) hX0 (fun h1 r e => jm mi_X7_orders (Nat.le_of_ble_eq_true rfl) ⟨.int, rfl, rfl⟩ rfl (k_X7_orders_0 hS (Or.inl rfl) g (fun _ => k_X7_orders_13 r (Or.inl e) g) (fun z => absurd rfl z)))
  | true =>
    rw [hb] at hS
    rw [Bool.true_and]
    obtain ⟨S, hSl, rfl, hS256⟩ := setB n8 hb
    rw [nn_I (by omega)]
    by_cases hi : -1 ≤ i.toInt
    · rw [if_pos (decide_eq_true hi)]
      obtain ⟨h1, a1, a2, a3, a4⟩ := x_letStand (d := d + 6) hT hC0 hSl
      obtain ⟨y1, y2, y3, y4, y5, y6, y7, -⟩ := id a3
      have hk := okS_steps (w := T.1.2.2.1) n8 hSl
      have hwl := ways_lt hk 0
      have hpop := popN_le S
      have mm : (-1 : Int32) ≤ i := by rw [fa_le]; exact hi
      have ent : ∀ {o : Option Value} {h' : PH}, RetT (some .int) o → (¬ i = -1 → J mX7_orders (d + 10) 51 [some (.ref x), some (.int (nI S)), some (.int i), some (.int (nI (ways T.1.1.length S (okS T.1.1 T.1.2.2.1 S) 0)))] [] h1 o h') → (i = -1 → J mX7_orders (d + 10) 49 [some (.ref x), some (.int (nI S)), some (.int i), some (.int (nI (ways T.1.1.length S (okS T.1.1 T.1.2.2.1 S) 0)))] [] h1 o h') → JMt mX7_orders (some .int) (d + 10) [.ref x, .int (nI S), .int i] h o h' := fun rt k1 k2 =>
        jm mi_X7_orders (Nat.le_of_ble_eq_true rfl) rt rfl (k_X7_orders_0 hS (Or.inl rfl) g (fun z => absurd z (by decide)) (fun _ => k_X7_orders_8 (fun _ => k_X7_orders_21 g f4 f0 W1 (by rw [hw]; exact a1) (Or.inl a2.1) x7.1 y1.1 y1.2.2.2.2.2.1 (t_count y7 a4) (Or.inl rfl) y7.1 k1 k2) (fun z => absurd mm z)))
      by_cases hi1 : i.toInt = -1
      · rw [if_pos hi1]
        have ei : i = -1 := Int32.toInt_inj.mp (by rw [hi1]; rfl)
        exact cqL hT ⟨h1, ent ⟨.int, rfl, rfl⟩ (fun z => absurd ei z) (fun _ => k_X7_orders_49), a2, a3⟩
      · rw [if_neg hi1]
        have ni : ¬ i = -1 := fun e => hi1 (by rw [e]; rfl)
        by_cases hc : i.toInt < popN S ∧ 0 < ways T.1.1.length S (okS T.1.1 T.1.2.2.1 S) 0
        · rw [if_pos hc]
          obtain ⟨k, hk1, rfl⟩ := inr (x := i) (n := popN S) (by rw [lt0I]; omega) hc.1
          rw [nn_I (by omega)]
          refine cqL hT ⟨h1, ent ⟨.int, rfl, rfl⟩ (fun _ => k_X7_orders_51 (t_bitCount hS256) (Or.inl rfl) (fun z => absurd z (nI_ge hk1 (by omega))) (fun _ => k_X7_orders_59 (fun _ => k_X7_orders_71 y1.1 y1.2.2.2.2.2.1 (t_inFirst hk y7 y3.2.2.2.1 a4 hc.2 hk1) (Or.inl rfl) y7.1) (fun z => absurd z (nI_ne0 hc.2 (by omega))))) (fun z => absurd z ni), a2, a3⟩
        · rw [if_neg hc]
          obtain ⟨h2, r1, r2, r3⟩ := refuse_x (d := d + 8) (k := 3) (by omega) (show XS h1 x O T from ⟨hT, δ, L, R, a3⟩)
          refine ⟨h2, ent ⟨.int, rfl, rfl⟩ (fun _ => k_X7_orders_51 (t_bitCount hS256) (Or.inl rfl) (fun _ => k_X7_orders_63 r1 (Or.inl r2.1) y1.1) (fun z => k_X7_orders_59 (fun z2 => ?_) (fun _ => k_X7_orders_63 r1 (Or.inl r2.1) y1.1))) (fun z => absurd z ni), (a2.mono (fun i y => by unfold inZ at y; unfold inX; omega)).tr r2, r3⟩
          rw [geLit (by omega)] at z
          exact absurd (show nI (ways T.1.1.length S (okS T.1.1 T.1.2.2.1 S) 0) = 0 by rw [show ways T.1.1.length S (okS T.1.1 T.1.2.2.1 S) 0 = 0 by omega]; rfl) z2
    · rw [if_neg (by rw [decide_eq_true_eq]; exact hi)]
      exact cqR (k := 0) (by omega) hX0 (fun h1 r e => jm mi_X7_orders (Nat.le_of_ble_eq_true rfl) ⟨.int, rfl, rfl⟩ rfl (k_X7_orders_0 hS (Or.inl rfl) g (fun z => absurd z (by decide)) (fun _ => k_X7_orders_8 (fun z => absurd (by rw [fa_le] at z; exact z) hi) (fun _ => k_X7_orders_13 r (Or.inl e) g))))
theorem c_highest {w : Int32} (hX : XS h x O T) : CQ mX7_highest (d + 10) [.ref x, .int w] h x O T (q_highest T.1 w) := by
  have hX0 := hX
  obtain ⟨hT, δ, L, R, hC⟩ := hX
  have hC0 := hC
  obtain ⟨x1, x2, x3, x4, x5, x6, x7, x8, x9, x10, x11, x12, x13⟩ := hC
  obtain ⟨o1, o2, o3, o4, o5, o6⟩ := hT.1
  have g := x1.1
  have f0 := x1.2.1
  have f3 := x1.2.2.2.2.1
  have W1 := x3.1
  have Wc := x3.2.1
  have Wp := x3.2.2.1
  have C := x3.2.2.2.1
  have Pl := x3.2.2.2.2.1
  have hw := x3.2.2.2.2.2.1
  have hm := x3.2.2.2.2.2.2.1
  have n8 := C.2.2.2.2.1
  have ok := C.2.2.2.2.2.2
  have cn := C.2.2.2.1
  have l8 := Pl.2.2.2.2.2.1
  have sz := Pl.2.2.2.2.1
  have f4 := x1.2.2.2.2.2.1
  unfold q_highest
  cases hb : inB w 0 1 with
  | false =>
    rw [if_neg (by decide)]
    have hb := of_decide_eq_false hb
    refine cqR (k := 0) (by omega) hX0 (fun h1 r e => jm mi_X7_highest (Nat.le_of_ble_eq_true rfl) ⟨.int, rfl, rfl⟩ rfl (k_X7_highest_0 (fun _ => k_X7_highest_9 r (Or.inl e) g) (fun z => k_X7_highest_4 (fun z2 => ?_) (fun _ => k_X7_highest_9 r (Or.inl e) g))))
    rw [lt0I] at z
    rw [show (1 : Int32) = nI 1 from rfl, leLit (by omega)] at z2
    omega
  | true =>
    rw [if_pos rfl]
    obtain ⟨w, hw1, rfl⟩ := inB_nI (n := 1) (by omega) hb
    rw [nn_I (by omega)]
    obtain ⟨h1, a1, a2, a3, a4⟩ := t_highestSet (d := d + 6) (most := T.1.2.2.2.1) (w := T.1.2.2.1) o5.2 o4 (by unfold inZ; omega) (by unfold inZ; omega) x7 C
    have c1 := hC0.lin a2 a3
    obtain ⟨y1, y2, y3, y4, y5, y6, y7, -⟩ := id c1
    have hp := Nat.two_pow_pos T.1.1.length
    have h256 := pow_le8 n8
    have hle := hiF_le (P := T.1.1) (most := T.1.2.2.2.1) (w := T.1.2.2.1) (2 ^ T.1.1.length - 1)
    have ent : ∀ {v : Int32}, (¬ nI w = 0 → J mX7_highest (d + 10) 47 [some (.ref x), some (.int (nI w)), some (.int (nI (hiF T.1.1 T.1.2.2.2.1 T.1.2.2.1 (2 ^ T.1.1.length - 1))))] [] h1 (some (.int v)) h1) → (nI w = 0 → J mX7_highest (d + 10) 43 [some (.ref x), some (.int (nI w)), some (.int (nI (hiF T.1.1 T.1.2.2.2.1 T.1.2.2.1 (2 ^ T.1.1.length - 1))))] [] h1 (some (.int v)) h1) → CQ mX7_highest (d + 10) [.ref x, .int (nI w)] h x O T (.inr v) := fun k1 k2 =>
      cqL hT ⟨h1, jm mi_X7_highest (Nat.le_of_ble_eq_true rfl) ⟨.int, rfl, rfl⟩ rfl (k_X7_highest_0 (fun z => absurd z (nI_lt0 (by omega))) (fun _ => k_X7_highest_4 (fun _ => k_X7_highest_17 g f4 f0 W1 (by rw [hm, hw]; exact a1) (Or.inl a2.1) x7.1 k1 k2) (fun z => absurd (nI_le (b := 1) hw1 (by omega)) z))), a2, c1⟩
    by_cases hw0 : w = 0
    · rw [if_pos hw0]
      exact ent (fun z => absurd (by rw [hw0]; rfl) z) (fun _ => k_X7_highest_43 k_X7_highest_55)
    · rw [if_neg hw0]
      exact ent (fun _ => k_X7_highest_47 y1.1 y1.2.2.2.2.2.1 (t_heightOf y7 a4 n8 (by omega)) (Or.inl rfl) y7.1 k_X7_highest_55) (fun z => absurd z (nI_ne0 (by omega) (by omega)))
theorem c_glad {s : Int32} (hX : XS h x O T) : CQ mX7_glad (d + 10) [.ref x, .int s] h x O T (q_glad T.1 s) := by
  have hX0 := hX
  obtain ⟨hT, δ, L, R, hC⟩ := hX
  have hC0 := hC
  obtain ⟨x1, x2, x3, x4, x5, x6, x7, x8, x9, x10, x11, x12, x13⟩ := hC
  obtain ⟨o1, o2, o3, o4, o5, o6⟩ := hT.1
  have g := x1.1
  have f0 := x1.2.1
  have f3 := x1.2.2.2.2.1
  have W1 := x3.1
  have Wc := x3.2.1
  have Wp := x3.2.2.1
  have C := x3.2.2.2.1
  have Pl := x3.2.2.2.2.1
  have hw := x3.2.2.2.2.2.1
  have hm := x3.2.2.2.2.2.2.1
  have n8 := C.2.2.2.2.1
  have ok := C.2.2.2.2.2.2
  have cn := C.2.2.2.1
  have l8 := Pl.2.2.2.2.2.1
  have sz := Pl.2.2.2.2.1
  have hS := t_isSetX (d := d + 8) (s := s) hC0
  have f4 := x1.2.2.2.2.2.1
  unfold q_glad
  cases hb : inB s 0 ((2 ^ T.1.1.length : Nat) - 1) with
  | false =>
    rw [hb] at hS
    rw [if_neg (by decide)]
    exact cqR (k := 0) (by omega) hX0 (fun h1 r e => jm mi_X7_glad (Nat.le_of_ble_eq_true rfl) ⟨.int, rfl, rfl⟩ rfl (k_X7_glad_0 hS (Or.inl rfl) g (fun z => absurd rfl z) (fun _ => k_X7_glad_8 r (Or.inl e) g)))
  | true =>
    rw [hb] at hS
    rw [if_pos rfl]
    obtain ⟨S, hSl, rfl, hS256⟩ := setB n8 hb
    rw [nn_I (by omega)]
    obtain ⟨h1, a1, a2, a3, a4⟩ := x_letStand (d := d + 6) hT hC0 hSl
    obtain ⟨y1, y2, y3, y4, y5, y6, y7, -⟩ := id a3
    have hk := okS_steps (w := T.1.2.2.1) n8 hSl
    obtain ⟨h2, b1, b2⟩ := t_greatestJoy (d := d + 6) hk (by omega) (by omega) y7 y3.2.2.2.1 a4
    have b2' : Upd (inZ (x + 18)) h1 h2 := b2.mono (fun i y => by unfold inZ; omega)
    have c2 := a3.lin b2' (y7.keep2 b2 (by omega) (by omega))
    exact cqL hT ⟨h2, jm mi_X7_glad (Nat.le_of_ble_eq_true rfl) ⟨.int, rfl, rfl⟩ rfl (k_X7_glad_0 hS (Or.inl rfl) g (fun _ => k_X7_glad_16 g f4 f0 W1 (by rw [hw]; exact a1) (Or.inl a2.1) x7.1 y1.1 y1.2.2.2.2.2.1 b1 (Or.inl b2.1) y7.1) (fun z => absurd z (by decide))), a2.tr b2', c2⟩
theorem c_ends {s w : Int32} (hX : XS h x O T) : CQ mX7_ends (d + 10) [.ref x, .int s, .int w] h x O T (q_ends T.1 s w) := by
  have hX0 := hX
  obtain ⟨hT, δ, L, R, hC⟩ := hX
  have hC0 := hC
  obtain ⟨x1, x2, x3, x4, x5, x6, x7, x8, x9, x10, x11, x12, x13⟩ := hC
  obtain ⟨o1, o2, o3, o4, o5, o6⟩ := hT.1
  have g := x1.1
  have f0 := x1.2.1
  have f3 := x1.2.2.2.2.1
  have W1 := x3.1
  have Wc := x3.2.1
  have Wp := x3.2.2.1
  have C := x3.2.2.2.1
  have Pl := x3.2.2.2.2.1
  have hw := x3.2.2.2.2.2.1
  have hm := x3.2.2.2.2.2.2.1
  have n8 := C.2.2.2.2.1
  have ok := C.2.2.2.2.2.2
  have cn := C.2.2.2.1
  have l8 := Pl.2.2.2.2.2.1
  have sz := Pl.2.2.2.2.1
  have hS := t_isSetX (d := d + 8) (s := s) hC0
  have f4 := x1.2.2.2.2.2.1
  unfold q_ends
  cases hb : inB s 0 ((2 ^ T.1.1.length : Nat) - 1) with
  | false =>
    rw [hb] at hS
    rw [Bool.false_and, if_neg (by decide)]
    exact cqR (k := 0) (by omega) hX0 (fun h1 r e => jm mi_X7_ends (Nat.le_of_ble_eq_true rfl) ⟨.int, rfl, rfl⟩ rfl (k_X7_ends_0 hS (Or.inl rfl) g (fun _ => k_X7_ends_17 r (Or.inl e) g) (fun z => absurd rfl z)))
  | true =>
    rw [hb] at hS
    rw [Bool.true_and]
    obtain ⟨S, hSl, rfl, hS256⟩ := setB n8 hb
    rw [nn_I (by omega)]
    cases hb2 : inB w 0 1 with
    | false =>
      rw [if_neg (by decide)]
      have hb := of_decide_eq_false hb2
      refine cqR (k := 0) (by omega) hX0 (fun h1 r e => jm mi_X7_ends (Nat.le_of_ble_eq_true rfl) ⟨.int, rfl, rfl⟩ rfl (k_X7_ends_0 hS (Or.inl rfl) g (fun z => absurd z (by decide)) (fun _ => k_X7_ends_8 (fun _ => k_X7_ends_17 r (Or.inl e) g) (fun z => k_X7_ends_12 (fun z2 => ?_) (fun _ => k_X7_ends_17 r (Or.inl e) g)))))
      rw [lt0I] at z
      rw [show (1 : Int32) = nI 1 from rfl, leLit (by omega)] at z2
      omega
    | true =>
      rw [if_pos rfl]
      obtain ⟨w, hw1, rfl⟩ := inB_nI (n := 1) (by omega) hb2
      rw [nn_I (by omega)]
      obtain ⟨h1, a1, a2, a3, a4⟩ := x_letStand (d := d + 6) hT hC0 hSl
      obtain ⟨y1, y2, y3, y4, y5, y6, y7, -⟩ := id a3
      have hk := okS_steps (w := T.1.2.2.1) n8 hSl
      have ent : ∀ {v : Int32}, (¬ nI w = 0 → J mX7_ends (d + 10) 54 [some (.ref x), some (.int (nI S)), some (.int (nI w))] [] h1 (some (.int v)) h1) → (nI w = 0 → J mX7_ends (d + 10) 44 [some (.ref x), some (.int (nI S)), some (.int (nI w))] [] h1 (some (.int v)) h1) → CQ mX7_ends (d + 10) [.ref x, .int (nI S), .int (nI w)] h x O T (.inr v) := fun k1 k2 =>
        cqL hT ⟨h1, jm mi_X7_ends (Nat.le_of_ble_eq_true rfl) ⟨.int, rfl, rfl⟩ rfl (k_X7_ends_0 hS (Or.inl rfl) g (fun z => absurd z (by decide)) (fun _ => k_X7_ends_8 (fun z => absurd z (nI_lt0 (by omega))) (fun _ => k_X7_ends_12 (fun _ => k_X7_ends_25 g f4 f0 W1 (by rw [hw]; exact a1) (Or.inl a2.1) x7.1 k1 k2) (fun z => absurd (nI_le (b := 1) hw1 (by omega)) z)))), a2, a3⟩
      by_cases hw0 : w = 0
      · rw [if_pos hw0]
        exact ent (fun z => absurd (by rw [hw0]; rfl) z) (fun _ => k_X7_ends_44 y1.1 y1.2.2.2.2.2.1 (t_feet hk y7 y3.2.2.2.1 a4) (Or.inl rfl) y7.1 k_X7_ends_61)
      · rw [if_neg hw0]
        exact ent (fun _ => k_X7_ends_54 y1.1 y1.2.2.2.2.2.1 (t_heads y7 a4) (Or.inl rfl) y7.1 k_X7_ends_61) (fun z => absurd z (nI_ne0 (by omega) (by omega)))
theorem c_backs {s set w : Int32} (hX : XS h x O T) : CQ mX7_backs (d + 10) [.ref x, .int s, .int set, .int w] h x O T (q_backs T s set w) := by
  have hX0 := hX
  obtain ⟨hT, δ, L, R, hC⟩ := hX
  have hC0 := hC
  obtain ⟨x1, x2, x3, x4, x5, x6, x7, x8, x9, x10, x11, x12, x13⟩ := hC
  obtain ⟨o1, o2, o3, o4, o5, o6⟩ := hT.1
  have g := x1.1
  have f0 := x1.2.1
  have f3 := x1.2.2.2.2.1
  have W1 := x3.1
  have Wc := x3.2.1
  have Wp := x3.2.2.1
  have C := x3.2.2.2.1
  have Pl := x3.2.2.2.2.1
  have hw := x3.2.2.2.2.2.1
  have hm := x3.2.2.2.2.2.2.1
  have n8 := C.2.2.2.2.1
  have ok := C.2.2.2.2.2.2
  have cn := C.2.2.2.1
  have l8 := Pl.2.2.2.2.2.1
  have sz := Pl.2.2.2.2.1
  have hH := t_isShelf (d := d + 9) (h := h) (s := s)
  have hS := t_isSetX (d := d + 8) (s := set) hC0
  have f4 := x1.2.2.2.2.2.1
  unfold q_backs
  cases hb0 : inB s 0 7 with
  | false =>
    rw [hb0] at hH
    rw [Bool.false_and, Bool.false_and, if_neg (by decide)]
    exact cqR (k := 0) (by omega) hX0 (fun h1 r e => jm mi_X7_backs (Nat.le_of_ble_eq_true rfl) ⟨.int, rfl, rfl⟩ rfl (k_X7_backs_0 hH (Or.inl rfl) (fun _ => k_X7_backs_24 r (Or.inl e) g) (fun z => absurd rfl z)))
  | true =>
    rw [hb0] at hH
    rw [Bool.true_and]
    cases hb : inB set 0 ((2 ^ T.1.1.length : Nat) - 1) with
    | false =>
      rw [hb] at hS
      rw [Bool.false_and, if_neg (by decide)]
      exact cqR (k := 0) (by omega) hX0 (fun h1 r e => jm mi_X7_backs (Nat.le_of_ble_eq_true rfl) ⟨.int, rfl, rfl⟩ rfl (k_X7_backs_0 hH (Or.inl rfl) (fun z => absurd z (by decide)) (fun _ => k_X7_backs_7 hS (Or.inl rfl) g (fun _ => k_X7_backs_24 r (Or.inl e) g) (fun z => absurd rfl z))))
    | true =>
      rw [hb] at hS
      rw [Bool.true_and]
      obtain ⟨S, hSl, rfl, hS256⟩ := setB n8 hb
      rw [nn_I (by omega)]
      cases hb2 : inB w 0 2 with
      | false =>
        rw [if_neg (by decide)]
        have hb := of_decide_eq_false hb2
        refine cqR (k := 0) (by omega) hX0 (fun h1 r e => jm mi_X7_backs (Nat.le_of_ble_eq_true rfl) ⟨.int, rfl, rfl⟩ rfl (k_X7_backs_0 hH (Or.inl rfl) (fun z => absurd z (by decide)) (fun _ => k_X7_backs_7 hS (Or.inl rfl) g (fun z => absurd z (by decide)) (fun _ => k_X7_backs_15 (fun _ => k_X7_backs_24 r (Or.inl e) g) (fun z => k_X7_backs_19 (fun z2 => ?_) (fun _ => k_X7_backs_24 r (Or.inl e) g))))))
        rw [lt0I] at z
        rw [show (2 : Int32) = nI 2 from rfl, leLit (by omega)] at z2
        omega
      | true =>
        rw [if_pos rfl]
        obtain ⟨w, hw2, rfl⟩ := inB_nI (n := 2) (by omega) hb2
        rw [nn_I (by omega)]
        obtain ⟨r, hr, hmr⟩ := t_rowOn (d := d + 9) (s := s) hC0
        have hF := t_faultOfRow (d := d + 7) (s := s) (l := nI (popN S)) hT hC0
        have hpop := popN_le S
        have ent : ∀ {o : Option Value} {h' : PH} {v12 : Int32}, RetT (some .int) o → JMt mX7_faultOfRow (some .int) (d + 9) [.ref x, .int s, .int (nI (popN S))] h (some (.int v12)) h → (r = none → J mX7_backs (d + 10) 60 [some (.ref x), some (.int s), some (.int (nI S)), some (.int (nI w)), some (qv r), some (.int v12)] [] h o h') → (∀ i, r = some i → J mX7_backs (d + 10) 55 [some (.ref x), some (.int s), some (.int (nI S)), some (.int (nI w)), some (qv r), some (.int v12)] [] h o h') → JMt mX7_backs (some .int) (d + 10) [.ref x, .int s, .int (nI S), .int (nI w)] h o h' := fun rt hF k1 k2 =>
          jm mi_X7_backs (Nat.le_of_ble_eq_true rfl) rt rfl (k_X7_backs_0 hH (Or.inl rfl) (fun z => absurd z (by decide)) (fun _ => k_X7_backs_7 hS (Or.inl rfl) g (fun z => absurd z (by decide)) (fun _ => k_X7_backs_15 (fun z => absurd z (nI_lt0 (by omega))) (fun z => k_X7_backs_19 (fun _ => k_X7_backs_32 hr (Or.inl rfl) g (t_bitCount hS256) (Or.inl rfl) hF (Or.inl rfl) g k1 k2) (fun z => absurd (nI_le (b := 2) hw2 (by omega)) z)))))
        generalize shfA T s = q at hmr hF ⊢
        match q, hmr, hF with
        | none, hmr, hF =>
          exact cqR (k := 2) (by omega) hX0 (fun h1 r' e => ent ⟨.int, rfl, rfl⟩ hF (fun _ => k_X7_backs_60 r' (Or.inl e) g) (fun i z => by rw [hmr] at z; cases z))
        | some (.inl p), hmr, hF =>
          exact cqR (k := 1) (by omega) hX0 (fun h1 r' e => ent ⟨.int, rfl, rfl⟩ hF (fun _ => k_X7_backs_60 r' (Or.inl e) g) (fun i z => by rw [hmr] at z; cases z))
        | some (.inr (sort, m, v)), hmr, hF =>
          obtain ⟨q, c, e1, e2, e3, e4, -⟩ := hmr
          dsimp only
          have hm40 := e2.2.2.2.2.1
          by_cases hpm : popN S ≤ m
          · rw [if_pos hpm]
            have hF' : JMt mX7_faultOfRow (some .int) (d + 9) [.ref x, .int s, .int (nI (popN S))] h (some (.int 0)) h := by
              have e : fltI (some (.inr (sort, m, v))) (nI (popN S)) = 0 := if_pos (nI_le hpm (by omega))
              rw [e] at hF
              exact hF
            obtain ⟨h1, a1, a2, a3, a4, a5⟩ := t_letLoadsBe (d := d + 6) x7 C e2 (by unfold inZ; omega) (by unfold inZ; omega) (by unfold inZ; omega) (by unfold inZ; omega) hSl
            have c1 := hC0.lin a2 a3
            obtain ⟨y1, y2, y3, y4, y5, y6, y7, -⟩ := id c1
            have hk := okB_steps (m := m) (v := v) n8 hSl
            have ent2 : ∀ {u : Int32}, J mX7_backs (d + 10) 67 [some (.ref x), some (.int s), some (.int (nI S)), some (.int (nI w)), some (qv r), some (.int 0)] [] h (some (.int u)) h1 → CQ mX7_backs (d + 10) [.ref x, .int s, .int (nI S), .int (nI w)] h x O T (.inr u) := fun kk =>
              cqL hT ⟨h1, ent ⟨.int, rfl, rfl⟩ hF' (fun z => by rw [e1] at z; cases z) (fun i z => k_X7_backs_55 (fun _ => kk) (fun z => absurd rfl z)), a2, c1⟩
            have a1' : JMt mX1_letLoadsBe none (d + 9) [.ref (x + 18), .int (nI S), qv r] h none h1 := by rw [e1]; exact a1
            have : w = 0 ∨ w = 1 ∨ w = 2 := by omega
            rcases this with rfl | rfl | rfl
            · exact ent2 (k_X7_backs_67 g f4 a1' (Or.inl a2.1) x7.1 (fun z => absurd rfl z) (fun _ => k_X7_backs_81 y1.1 y1.2.2.2.2.2.1 (t_count y7 a5) (Or.inl rfl) y7.1))
            · exact ent2 (k_X7_backs_67 g f4 a1' (Or.inl a2.1) x7.1 (fun _ => k_X7_backs_89 (fun z => absurd rfl z) (fun _ => k_X7_backs_94 y1.1 y1.2.2.2.2.2.1 (t_feet hk y7 y3.2.2.2.1 a5) (Or.inl rfl) y7.1 k_X7_backs_111)) (fun z => absurd z (by decide)))
            · exact ent2 (k_X7_backs_67 g f4 a1' (Or.inl a2.1) x7.1 (fun _ => k_X7_backs_89 (fun _ => k_X7_backs_104 y1.1 y1.2.2.2.2.2.1 (t_heads y7 a5) (Or.inl rfl) y7.1 k_X7_backs_111) (fun z => absurd z (by decide))) (fun z => absurd z (by decide)))
          · rw [if_neg hpm]
            have hF' : JMt mX7_faultOfRow (some .int) (d + 9) [.ref x, .int s, .int (nI (popN S))] h (some (.int (rfI 0))) h := by
              have e : fltI (some (.inr (sort, m, v))) (nI (popN S)) = rfI 0 := if_neg (nI_ge (by omega) (by omega))
              rw [e] at hF
              exact hF
            exact cqR (k := 0) (by omega) hX0 (fun h1 r' e => ent ⟨.int, rfl, rfl⟩ hF' (fun z => by rw [e1] at z; cases z) (fun i z => k_X7_backs_55 (fun z => absurd z (by decide)) (fun _ => k_X7_backs_60 r' (Or.inl e) g)))
/-! told climbs -/
theorem l_wrong {r c sort m n : Nat} {v : Nat → Int64} (hT : okT T) (hn : n ≤ m) (hm : m ≤ 40) (sr : x + 32 ≤ r) (sc : x + 32 ≤ c) : ∀ k j (h : PH) (L : List Nat), n - j = k → j ≤ n → inP T.1.1 L → L.length ≤ T.1.2.2.2.1 → RowS h r c sort m v → XC h x O T δ L R →
    ∃ h1 L1, J mX7_firstWrong (d + 4) 16 [some (.ref x), some (.ref r), some (.int (nI n)), some (.int (nI j)), none, none] [] h (some (.int (oI (wrgF T.1 v k j L)))) h1 ∧ Upd (pc2 (x + 16) (x + 17)) h h1 ∧ XC h1 x O T δ L1 R := by
  intro k
  induction k with
  | zero =>
    intro j h L hj hl hL hLl hR hC
    exact ⟨h, L, k_X7_firstWrong_16 (fun _ => k_X7_firstWrong_100) (fun z => absurd (nI_le (by omega) (by omega)) z), Upd.rf, hC⟩
  | succ k ih =>
    intro j h L hj hl hL hLl hR hC
    obtain ⟨o1, o2, o3, o4, o5, o6⟩ := hT.1
    obtain ⟨x1, x2, x3, x4, x5, x6, -⟩ := id hC
    have n8 := x3.2.2.2.1.2.2.2.2.1
    have cn := x3.2.2.2.1.2.2.2.1
    have hcl := t_cell (d := d + 3) (x := nI j) hR
    rw [cellI_at (by omega) (by omega)] at hcl
    have z0 : (0 : Int64).toInt = 0 := rfl
    have ent : ∀ {o : Option Value} {h' : PH}, (v j < 0 → J mX7_firstWrong (d + 4) 82 [some (.ref x), some (.ref r), some (.int (nI n)), some (.int (nI j)), some (.long (v j)), none] [] h o h') → (¬ v j < 0 → J mX7_firstWrong (d + 4) 35 [some (.ref x), some (.ref r), some (.int (nI n)), some (.int (nI j)), some (.long (v j)), none] [] h o h') → J mX7_firstWrong (d + 4) 16 [some (.ref x), some (.ref r), some (.int (nI n)), some (.int (nI j)), none, none] [] h o h' := fun k1 k2 =>
      k_X7_firstWrong_16 (fun z => absurd z (nI_ge (by omega) (by omega))) (fun _ => k_X7_firstWrong_21 hcl (Or.inl rfl) hR.1 (fun z => k1 ((lg_cmp_lt _ _).mp z)) (fun z => k2 (fun z2 => z ((lg_cmp_lt _ _).mpr z2))))
    unfold wrgF
    have yes : badB T.1 (v j) L = true → ∃ h1 L1, (∀ {y : Option Value}, J mX7_firstWrong (d + 4) 82 [some (.ref x), some (.ref r), some (.int (nI n)), some (.int (nI j)), some (.long (v j)), none] [] h (some (.int (oI (if badB T.1 (v j) L then some j else wrgF T.1 v k (j + 1) (insL L L.length (v j).toInt.toNat))))) h1) ∧ Upd (pc2 (x + 16) (x + 17)) h h1 ∧ XC h1 x O T δ L1 R := fun e => by
      rw [if_pos e]
      exact ⟨h, L, k_X7_firstWrong_82, Upd.rf, hC⟩
    by_cases hv : 0 ≤ (v j).toInt ∧ (v j).toInt < T.1.1.length
    · have eI := long_I n8 hv
      have hp : (v j).toInt.toNat < T.1.1.length := by omega
      have ge : ∀ {o : Option Value} {h' : PH}, J mX7_firstWrong (d + 4) 52 [some (.ref x), some (.ref r), some (.int (nI n)), some (.int (nI j)), some (.long (v j)), none] [] h o h' → J mX7_firstWrong (d + 4) 16 [some (.ref x), some (.ref r), some (.int (nI n)), some (.int (nI j)), none, none] [] h o h' := fun kk =>
        ent (fun z => absurd z (by rw [fa_lt64, z0]; omega)) (fun _ => k_X7_firstWrong_35 x1.1 x1.2.1 x3.1 x3.2.1 x3.2.2.2.1.1 (fun z => absurd z (by rw [lg_cmp_ge, cn, nI_l (by omega), fa_le64, lN_toInt (by omega)]; omega)) (fun _ => kk))
      have hI' := t_isIn (d := d + 1) (x := (v j).toInt.toNat) x6 hL n8 (by omega)
      rw [← eI] at hI'
      cases hs : (courseF L (v j).toInt.toNat 0).isSome with
      | true =>
        obtain ⟨h1, L1, y1, y2, y3⟩ := yes (by unfold badB; rw [hs]; simp)
        exact ⟨h1, L1, ge (k_X7_firstWrong_52 x1.1 x1.2.2.2.2.1 hI' (Or.inl rfl) x6.1 (fun _ => y1 (y := none)) (fun z => absurd z (by rw [hs]; decide))), y2, y3⟩
      | false =>
        have ge2 : ∀ {o : Option Value} {h' : PH}, ((nI L.length < nI T.1.2.2.2.1) → J mX7_firstWrong (d + 4) 84 [some (.ref x), some (.ref r), some (.int (nI n)), some (.int (nI j)), some (.long (v j)), none] [] h o h') → (¬ (nI L.length < nI T.1.2.2.2.1) → J mX7_firstWrong (d + 4) 82 [some (.ref x), some (.ref r), some (.int (nI n)), some (.int (nI j)), some (.long (v j)), none] [] h o h') → J mX7_firstWrong (d + 4) 16 [some (.ref x), some (.ref r), some (.int (nI n)), some (.int (nI j)), none, none] [] h o h' := fun k1 k2 =>
          ge (k_X7_firstWrong_52 x1.1 x1.2.2.2.2.1 hI' (Or.inl rfl) x6.1 (fun z => absurd (by rw [hs]; rfl) z) (fun _ => k_X7_firstWrong_65 x1.1 x1.2.2.2.2.1 x6.1 x1.2.1 x3.1 (by rw [x6.2.2.2.2.1, x3.2.2.2.2.2.2.1]; exact k1) (by rw [x6.2.2.2.2.1, x3.2.2.2.2.2.2.1]; exact k2)))
        by_cases hl2 : L.length < T.1.2.2.2.1
        · have nb : badB T.1 (v j) L = false := by
            unfold badB
            rw [hs, show decide (0 ≤ (v j).toInt ∧ (v j).toInt < T.1.1.length) = true from decide_eq_true hv, show decide (T.1.2.2.2.1 ≤ L.length) = false from decide_eq_false (by omega)]
            rfl
          rw [nb, if_neg (by decide)]
          obtain ⟨h1, b1, b2, b3⟩ := t_push (d := d + 1) (x := (v j).toInt.toNat) x6 (by omega)
          rw [← eI] at b1
          have c1 := hC.pile b2 b3
          obtain ⟨h2, L2, i1, i2, i3⟩ := ih (j + 1) h1 _ (by omega) (by omega) (insL_in hL hp) (by rw [insL_len (Nat.le_refl _)]; omega) (hR.chg b2.chg (fun y => by unfold pc2 at y; omega) (fun y => by unfold pc2 at y; omega)) c1
          exact ⟨h2, L2, ge2 (fun _ => k_X7_firstWrong_84 x1.1 x1.2.2.2.2.1 b1 (Or.inl b2.1) x6.1 (by rw [nI_1]; exact i1)) (fun z => absurd (nI_lt hl2 (by omega)) z), b2.tr i2, i3⟩
        · obtain ⟨h1, L1, y1, y2, y3⟩ := yes (by unfold badB; rw [show decide (T.1.2.2.2.1 ≤ L.length) = true from decide_eq_true (by omega)]; simp)
          exact ⟨h1, L1, ge2 (fun z => absurd z (nI_nlt (by omega) (by omega))) (fun _ => y1 (y := none)), y2, y3⟩
    · obtain ⟨h1, L1, y1, y2, y3⟩ := yes (by unfold badB; rw [show decide (0 ≤ (v j).toInt ∧ (v j).toInt < T.1.1.length) = false from decide_eq_false hv]; rfl)
      refine ⟨h1, L1, ent (fun _ => y1 (y := none)) (fun z => k_X7_firstWrong_35 x1.1 x1.2.1 x3.1 x3.2.1 x3.2.2.2.1.1 (fun _ => y1 (y := none)) (fun z2 => absurd ?_ z2)), y2, y3⟩
      rw [fa_lt64, z0] at z
      rw [lg_cmp_ge, cn, nI_l (by omega), fa_le64, lN_toInt (by omega)]
      omega
theorem l_break {r c sort m n : Nat} {v : Nat → Int64} (hT : okT T) (hn : n ≤ m) (hm : m ≤ 40) (sr : x + 32 ≤ r) (sc : x + 32 ≤ c) : ∀ k j (h : PH) (L : List Nat), n - j = k → j ≤ n → inP T.1.1 L → L.length ≤ T.1.2.2.2.1 → wrgF T.1 v k j L = none → RowS h r c sort m v → XC h x O T δ L R →
    ∃ h1 L1, J mX7_firstBreak (d + 4) 16 [some (.ref x), some (.ref r), some (.int (nI n)), some (.int (nI j))] [] h (some (.int (oI (brkF T.1 v k j L)))) h1 ∧ Upd (pc2 (x + 16) (x + 17)) h h1 ∧ XC h1 x O T δ L1 R := by
  intro k
  induction k with
  | zero =>
    intro j h L hj hl hL hLl hW hR hC
    exact ⟨h, L, k_X7_firstBreak_16 (fun _ => k_X7_firstBreak_59) (fun z => absurd (nI_le (by omega) (by omega)) z), Upd.rf, hC⟩
  | succ k ih =>
    intro j h L hj hl hL hLl hW hR hC
    obtain ⟨o1, o2, o3, o4, o5, o6⟩ := hT.1
    obtain ⟨x1, x2, x3, x4, x5, x6, -⟩ := id hC
    have n8 := x3.2.2.2.1.2.2.2.2.1
    have hcl := t_cell (d := d + 3) (x := nI j) hR
    rw [cellI_at (by omega) (by omega)] at hcl
    unfold wrgF at hW
    cases hb : badB T.1 (v j) L with
    | true => rw [hb, if_pos rfl] at hW; cases hW
    | false =>
      rw [hb, if_neg (by decide)] at hW
      unfold badB at hb
      rw [Bool.or_eq_false_iff, Bool.or_eq_false_iff, Bool.not_eq_false', decide_eq_true_eq, decide_eq_false_iff_not] at hb
      obtain ⟨hv, hs, hl2⟩ := hb
      have eI := long_I n8 hv
      have hp : (v j).toInt.toNat < T.1.1.length := by omega
      obtain ⟨h1, b1, b2, b3⟩ := t_push (d := d + 1) (x := (v j).toInt.toNat) x6 (by omega)
      rw [← eI] at b1
      have c1 := hC.pile b2 b3
      obtain ⟨y1, y2, y3, y4, y5, y6, -⟩ := id c1
      have hF := t_isFirm (d := d) y3.2.2.2.1 y6 (insL_in hL hp) o4
      have ent : ∀ {o : Option Value} {h' : PH}, (¬ bI (firmB T.1.1 T.1.2.2.1 (insL L L.length (v j).toInt.toNat)) = 0 → J mX7_firstBreak (d + 4) 53 [some (.ref x), some (.ref r), some (.int (nI n)), some (.int (nI j))] [] h1 o h') → (bI (firmB T.1.1 T.1.2.2.1 (insL L L.length (v j).toInt.toNat)) = 0 → J mX7_firstBreak (d + 4) 51 [some (.ref x), some (.ref r), some (.int (nI n)), some (.int (nI j))] [] h1 o h') → J mX7_firstBreak (d + 4) 16 [some (.ref x), some (.ref r), some (.int (nI n)), some (.int (nI j))] [] h o h' := fun k1 k2 =>
        k_X7_firstBreak_16 (fun z => absurd z (nI_ge (by omega) (by omega))) (fun _ => k_X7_firstBreak_21 x1.1 x1.2.2.2.2.1 hcl (Or.inl rfl) hR.1 b1 (Or.inl b2.1) x6.1 y1.1 y1.2.2.2.2.1 y1.2.1 y3.1 (by rw [y3.2.2.2.2.2.1]; exact hF) (Or.inl rfl) y6.1 k1 k2)
      unfold brkF
      cases hf : firmB T.1.1 T.1.2.2.1 (insL L L.length (v j).toInt.toNat) with
      | true =>
        rw [if_pos rfl]
        obtain ⟨h2, L2, i1, i2, i3⟩ := ih (j + 1) h1 _ (by omega) (by omega) (insL_in hL hp) (by rw [insL_len (Nat.le_refl _)]; omega) hW (hR.chg b2.chg (fun y => by unfold pc2 at y; omega) (fun y => by unfold pc2 at y; omega)) c1
        exact ⟨h2, L2, ent (fun _ => k_X7_firstBreak_53 (by rw [nI_1]; exact i1)) (fun z => absurd z (by rw [hf]; decide)), b2.tr i2, i3⟩
      | false =>
        rw [if_neg (by decide)]
        exact ⟨h1, _, ent (fun z => absurd (by rw [hf]; rfl) z) (fun _ => k_X7_firstBreak_51), b2, c1⟩
theorem x_wrong {r c sort m n : Nat} {v : Nat → Int64} (hT : okT T) (hn : n ≤ m) (sr : x + 32 ≤ r) (sc : x + 32 ≤ c) (hR : RowS h r c sort m v) (hC : XC h x O T δ L R) : ∃ h1 L1, JMt mX7_firstWrong (some .int) (d + 4) [.ref x, .ref r, .int (nI n)] h (some (.int (oI (wrgF T.1 v n 0 T.1.2.1)))) h1 ∧ Upd (pc2 (x + 16) (x + 17)) h h1 ∧ XC h1 x O T δ L1 R := by
  obtain ⟨o1, o2, o3, o4, o5, o6⟩ := hT.1
  obtain ⟨x1, x2, x3, x4, x5, x6, -⟩ := id hC
  obtain ⟨h1, a1, a2, a3⟩ := t_trial (d := d + 2) hC
  obtain ⟨h2, L2, i1, i2, i3⟩ := l_wrong (d := d) hT hn hR.2.2.2.2.1 sr sc n 0 h1 T.1.2.1 rfl (Nat.zero_le _) o1 o3 (hR.chg a2.chg (fun y => by unfold pc2 at y; omega) (fun y => by unfold pc2 at y; omega)) a3
  exact ⟨h2, L2, jm mi_X7_firstWrong (Nat.le_of_ble_eq_true rfl) ⟨.int, rfl, rfl⟩ rfl (k_X7_firstWrong_0 x1.1 x1.2.2.2.2.1 x1.2.1 x3.1 x3.2.2.1 a1 (Or.inl a2.1) x6.1 i1), a2.tr i2, i3⟩
theorem x_break {r c sort m n : Nat} {v : Nat → Int64} (hT : okT T) (hn : n ≤ m) (sr : x + 32 ≤ r) (sc : x + 32 ≤ c) (hR : RowS h r c sort m v) (hC : XC h x O T δ L R) (hW : wrgF T.1 v n 0 T.1.2.1 = none) : ∃ h1 L1, JMt mX7_firstBreak (some .int) (d + 4) [.ref x, .ref r, .int (nI n)] h (some (.int (oI (brkF T.1 v n 0 T.1.2.1)))) h1 ∧ Upd (pc2 (x + 16) (x + 17)) h h1 ∧ XC h1 x O T δ L1 R := by
  obtain ⟨o1, o2, o3, o4, o5, o6⟩ := hT.1
  obtain ⟨x1, x2, x3, x4, x5, x6, -⟩ := id hC
  obtain ⟨h1, a1, a2, a3⟩ := t_trial (d := d + 2) hC
  obtain ⟨h2, L2, i1, i2, i3⟩ := l_break (d := d) hT hn hR.2.2.2.2.1 sr sc n 0 h1 T.1.2.1 rfl (Nat.zero_le _) o1 o3 hW (hR.chg a2.chg (fun y => by unfold pc2 at y; omega) (fun y => by unfold pc2 at y; omega)) a3
  exact ⟨h2, L2, jm mi_X7_firstBreak (Nat.le_of_ble_eq_true rfl) ⟨.int, rfl, rfl⟩ rfl (k_X7_firstBreak_0 x1.1 x1.2.2.2.2.1 x1.2.1 x3.1 x3.2.2.1 a1 (Or.inl a2.1) x6.1 i1), a2.tr i2, i3⟩
theorem c_judge {s n : Int32} (hX : XS h x O T) : CQ mX7_judge (d + 10) [.ref x, .int s, .int n] h x O T (q_judge T s n) := by
  have hX0 := hX
  obtain ⟨hT, δ, L, R, hC⟩ := hX
  have hC0 := hC
  obtain ⟨x1, x2, x3, x4, x5, x6, x7, x8, x9, x10, x11, x12, x13⟩ := hC
  obtain ⟨o1, o2, o3, o4, o5, o6⟩ := hT.1
  have g := x1.1
  have f0 := x1.2.1
  have f3 := x1.2.2.2.2.1
  have W1 := x3.1
  have Wc := x3.2.1
  have Wp := x3.2.2.1
  have C := x3.2.2.2.1
  have Pl := x3.2.2.2.2.1
  have hw := x3.2.2.2.2.2.1
  have hm := x3.2.2.2.2.2.2.1
  have n8 := C.2.2.2.2.1
  have ok := C.2.2.2.2.2.2
  have cn := C.2.2.2.1
  have l8 := Pl.2.2.2.2.2.1
  have sz := Pl.2.2.2.2.1
  have hH := t_isShelf (d := d + 9) (h := h) (s := s)
  have hN := t_isLength (d := d + 9) (h := h) (s := n)
  unfold q_judge
  cases hb0 : inB s 0 7 with
  | false =>
    rw [hb0] at hH
    rw [Bool.false_and, if_neg (by decide)]
    exact cqR (k := 0) (by omega) hX0 (fun h1 r e => jm mi_X7_judge (Nat.le_of_ble_eq_true rfl) ⟨.int, rfl, rfl⟩ rfl (k_X7_judge_0 hH (Or.inl rfl) (fun _ => k_X7_judge_14 r (Or.inl e) g) (fun z => absurd rfl z)))
  | true =>
    rw [hb0] at hH
    rw [Bool.true_and]
    cases hb : inB n 0 40 with
    | false =>
      rw [hb] at hN
      rw [if_neg (by decide)]
      exact cqR (k := 0) (by omega) hX0 (fun h1 r e => jm mi_X7_judge (Nat.le_of_ble_eq_true rfl) ⟨.int, rfl, rfl⟩ rfl (k_X7_judge_0 hH (Or.inl rfl) (fun z => absurd z (by decide)) (fun _ => k_X7_judge_7 hN (Or.inl rfl) (fun z => absurd rfl z) (fun _ => k_X7_judge_14 r (Or.inl e) g))))
    | true =>
      rw [hb] at hN
      rw [if_pos rfl]
      obtain ⟨n, hn40, rfl⟩ := inB_nI (n := 40) (by omega) hb
      rw [nn_I (by omega)]
      obtain ⟨r, hr, hmr⟩ := t_rowOn (d := d + 9) (s := s) hC0
      have hF := t_faultOfRow (d := d + 7) (s := s) (l := nI n) hT hC0
      have ent : ∀ {o : Option Value} {h' : PH} {v12 : Int32}, RetT (some .int) o → JMt mX7_faultOfRow (some .int) (d + 9) [.ref x, .int s, .int (nI n)] h (some (.int v12)) h → (r = none → J mX7_judge (d + 10) 45 [some (.ref x), some (.int s), some (.int (nI n)), some (qv r), some (.int v12)] [] h o h') → (∀ i, r = some i → J mX7_judge (d + 10) 40 [some (.ref x), some (.int s), some (.int (nI n)), some (qv r), some (.int v12)] [] h o h') → JMt mX7_judge (some .int) (d + 10) [.ref x, .int s, .int (nI n)] h o h' := fun rt hF k1 k2 =>
        jm mi_X7_judge (Nat.le_of_ble_eq_true rfl) rt rfl (k_X7_judge_0 hH (Or.inl rfl) (fun z => absurd z (by decide)) (fun _ => k_X7_judge_7 hN (Or.inl rfl) (fun _ => k_X7_judge_22 hr (Or.inl rfl) g hF (Or.inl rfl) g k1 k2) (fun z => absurd z (by decide))))
      generalize shfA T s = q at hmr hF ⊢
      match q, hmr, hF with
      | none, hmr, hF =>
        exact cqR (k := 2) (by omega) hX0 (fun h1 r' e => ent ⟨.int, rfl, rfl⟩ hF (fun _ => k_X7_judge_45 r' (Or.inl e) g k_X7_judge_60) (fun i z => by rw [hmr] at z; cases z))
      | some (.inl p), hmr, hF =>
        exact cqR (k := 1) (by omega) hX0 (fun h1 r' e => ent ⟨.int, rfl, rfl⟩ hF (fun _ => k_X7_judge_45 r' (Or.inl e) g k_X7_judge_60) (fun i z => by rw [hmr] at z; cases z))
      | some (.inr (sort, m, v)), hmr, hF =>
        obtain ⟨q, c, e1, e2, e3, e4, -⟩ := hmr
        dsimp only
        have hm40 := e2.2.2.2.2.1
        by_cases hpm : n ≤ m
        · rw [if_pos hpm]
          have hF' : JMt mX7_faultOfRow (some .int) (d + 9) [.ref x, .int s, .int (nI n)] h (some (.int 0)) h := by
            have e : fltI (some (.inr (sort, m, v))) (nI n) = 0 := if_pos (nI_le hpm (by omega))
            rw [e] at hF
            exact hF
          obtain ⟨h1, L1, a1, a2, a3⟩ := x_wrong (d := d + 5) hT hpm e3.1 e4.1 e2 hC0
          have a1' : JMt mX7_firstWrong (some .int) (d + 9) [.ref x, qv r, .int (nI n)] h (some (.int (oI (wrgF T.1 v n 0 T.1.2.1)))) h1 := by rw [e1]; exact a1
          exact cqT hT ⟨h1, L1, ent ⟨.int, rfl, rfl⟩ hF' (fun z => by rw [e1] at z; cases z) (fun i z => k_X7_judge_40 (fun _ => k_X7_judge_54 a1' (Or.inl a2.1) g k_X7_judge_60) (fun z => absurd rfl z)), a2, a3⟩
        · rw [if_neg hpm]
          have hF' : JMt mX7_faultOfRow (some .int) (d + 9) [.ref x, .int s, .int (nI n)] h (some (.int (rfI 0))) h := by
            have e : fltI (some (.inr (sort, m, v))) (nI n) = rfI 0 := if_neg (nI_ge (by omega) (by omega))
            rw [e] at hF
            exact hF
          exact cqR (k := 0) (by omega) hX0 (fun h1 r' e => ent ⟨.int, rfl, rfl⟩ hF' (fun z => by rw [e1] at z; cases z) (fun i z => k_X7_judge_40 (fun z => absurd z (by decide)) (fun _ => k_X7_judge_45 r' (Or.inl e) g k_X7_judge_60)))
theorem c_breaks {s n : Int32} (hX : XS h x O T) : CQ mX7_breaks (d + 10) [.ref x, .int s, .int n] h x O T (q_breaks T s n) := by
  have hX0 := hX
  obtain ⟨hT, δ, L, R, hC⟩ := hX
  have hC0 := hC
  obtain ⟨x1, x2, x3, x4, x5, x6, x7, x8, x9, x10, x11, x12, x13⟩ := hC
  obtain ⟨o1, o2, o3, o4, o5, o6⟩ := hT.1
  have g := x1.1
  have f0 := x1.2.1
  have f3 := x1.2.2.2.2.1
  have W1 := x3.1
  have Wc := x3.2.1
  have Wp := x3.2.2.1
  have C := x3.2.2.2.1
  have Pl := x3.2.2.2.2.1
  have hw := x3.2.2.2.2.2.1
  have hm := x3.2.2.2.2.2.2.1
  have n8 := C.2.2.2.2.1
  have ok := C.2.2.2.2.2.2
  have cn := C.2.2.2.1
  have l8 := Pl.2.2.2.2.2.1
  have sz := Pl.2.2.2.2.1
  have hH := t_isShelf (d := d + 9) (h := h) (s := s)
  have hN := t_isLength (d := d + 9) (h := h) (s := n)
  unfold q_breaks
  cases hb0 : inB s 0 7 with
  | false =>
    rw [hb0] at hH
    rw [Bool.false_and, if_neg (by decide)]
    exact cqR (k := 0) (by omega) hX0 (fun h1 r e => jm mi_X7_breaks (Nat.le_of_ble_eq_true rfl) ⟨.int, rfl, rfl⟩ rfl (k_X7_breaks_0 hH (Or.inl rfl) (fun _ => k_X7_breaks_14 r (Or.inl e) g) (fun z => absurd rfl z)))
  | true =>
    rw [hb0] at hH
    rw [Bool.true_and]
    cases hb : inB n 0 40 with
    | false =>
      rw [hb] at hN
      rw [if_neg (by decide)]
      exact cqR (k := 0) (by omega) hX0 (fun h1 r e => jm mi_X7_breaks (Nat.le_of_ble_eq_true rfl) ⟨.int, rfl, rfl⟩ rfl (k_X7_breaks_0 hH (Or.inl rfl) (fun z => absurd z (by decide)) (fun _ => k_X7_breaks_7 hN (Or.inl rfl) (fun z => absurd rfl z) (fun _ => k_X7_breaks_14 r (Or.inl e) g))))
    | true =>
      rw [hb] at hN
      rw [if_pos rfl]
      obtain ⟨n, hn40, rfl⟩ := inB_nI (n := 40) (by omega) hb
      rw [nn_I (by omega)]
      obtain ⟨r, hr, hmr⟩ := t_rowOn (d := d + 9) (s := s) hC0
      have hF := t_faultOfRow (d := d + 7) (s := s) (l := nI n) hT hC0
      have ent : ∀ {o : Option Value} {h' : PH} {v12 : Int32}, RetT (some .int) o → JMt mX7_faultOfRow (some .int) (d + 9) [.ref x, .int s, .int (nI n)] h (some (.int v12)) h → (r = none → J mX7_breaks (d + 10) 45 [some (.ref x), some (.int s), some (.int (nI n)), some (qv r), some (.int v12)] [] h o h') → (∀ i, r = some i → J mX7_breaks (d + 10) 40 [some (.ref x), some (.int s), some (.int (nI n)), some (qv r), some (.int v12)] [] h o h') → JMt mX7_breaks (some .int) (d + 10) [.ref x, .int s, .int (nI n)] h o h' := fun rt hF k1 k2 =>
        jm mi_X7_breaks (Nat.le_of_ble_eq_true rfl) rt rfl (k_X7_breaks_0 hH (Or.inl rfl) (fun z => absurd z (by decide)) (fun _ => k_X7_breaks_7 hN (Or.inl rfl) (fun _ => k_X7_breaks_22 hr (Or.inl rfl) g hF (Or.inl rfl) g k1 k2) (fun z => absurd z (by decide))))
      generalize shfA T s = q at hmr hF ⊢
      match q, hmr, hF with
      | none, hmr, hF =>
        exact cqR (k := 2) (by omega) hX0 (fun h1 r' e => ent ⟨.int, rfl, rfl⟩ hF (fun _ => k_X7_breaks_45 r' (Or.inl e) g) (fun i z => by rw [hmr] at z; cases z))
      | some (.inl p), hmr, hF =>
        exact cqR (k := 1) (by omega) hX0 (fun h1 r' e => ent ⟨.int, rfl, rfl⟩ hF (fun _ => k_X7_breaks_45 r' (Or.inl e) g) (fun i z => by rw [hmr] at z; cases z))
      | some (.inr (sort, m, v)), hmr, hF =>
        obtain ⟨q, c, e1, e2, e3, e4, -⟩ := hmr
        dsimp only
        have hm40 := e2.2.2.2.2.1
        by_cases hpm : n ≤ m
        · rw [if_pos hpm]
          have hF' : JMt mX7_faultOfRow (some .int) (d + 9) [.ref x, .int s, .int (nI n)] h (some (.int 0)) h := by
            have e : fltI (some (.inr (sort, m, v))) (nI n) = 0 := if_pos (nI_le hpm (by omega))
            rw [e] at hF
            exact hF
          obtain ⟨h1, L1, a1, a2, a3⟩ := x_wrong (d := d + 5) hT hpm e3.1 e4.1 e2 hC0
          have e2' := e2.chg a2.chg (fun y => by unfold pc2 at y; omega) (fun y => by unfold pc2 at y; omega)
          have g1 := a3.1.1
          have a1' : JMt mX7_firstWrong (some .int) (d + 9) [.ref x, qv r, .int (nI n)] h (some (.int (oI (wrgF T.1 v n 0 T.1.2.1)))) h1 := by rw [e1]; exact a1
          cases hW : wrgF T.1 v n 0 T.1.2.1 with
          | some k =>
            rw [hW] at a1'
            have hkl := wrgF_lt _ _ _ _ hW
            obtain ⟨h2, r1, r2, r3⟩ := refuse_x (d := d + 8) (k := 3) (by omega) (show XS h1 x O T from ⟨hT, δ, L1, R, a3⟩)
            exact ⟨h2, ent ⟨.int, rfl, rfl⟩ hF' (fun z => by rw [e1] at z; cases z) (fun i z => k_X7_breaks_40 (fun _ => k_X7_breaks_52 a1' (Or.inl a2.1) g (fun _ => k_X7_breaks_71 r1 (Or.inl r2.1) g1 k_X7_breaks_78) (fun z => absurd z (nI_nneg1 (by omega)))) (fun z => absurd rfl z)), (a2.mono (fun i y => pcX y)).tr r2, r3⟩
          | none =>
            rw [hW] at a1'
            obtain ⟨h2, L2, b1, b2, b3⟩ := x_break (d := d + 5) hT hpm e3.1 e4.1 e2' a3 hW
            have b1' : JMt mX7_firstBreak (some .int) (d + 9) [.ref x, qv r, .int (nI n)] h1 (some (.int (oI (brkF T.1 v n 0 T.1.2.1)))) h2 := by rw [e1]; exact b1
            rw [if_neg (by decide)]
            exact cqT hT ⟨h2, L2, ent ⟨.int, rfl, rfl⟩ hF' (fun z => by rw [e1] at z; cases z) (fun i z => k_X7_breaks_40 (fun _ => k_X7_breaks_52 a1' (Or.inl a2.1) g (fun z => absurd rfl z) (fun _ => k_X7_breaks_62 b1' (Or.inl b2.1) g1 k_X7_breaks_78)) (fun z => absurd rfl z)), a2.tr b2, b3⟩
        · rw [if_neg hpm]
          have hF' : JMt mX7_faultOfRow (some .int) (d + 9) [.ref x, .int s, .int (nI n)] h (some (.int (rfI 0))) h := by
            have e : fltI (some (.inr (sort, m, v))) (nI n) = rfI 0 := if_neg (nI_ge (by omega) (by omega))
            rw [e] at hF
            exact hF
          exact cqR (k := 0) (by omega) hX0 (fun h1 r' e => ent ⟨.int, rfl, rfl⟩ hF' (fun z => by rw [e1] at z; cases z) (fun i z => k_X7_breaks_40 (fun z => absurd z (by decide)) (fun _ => k_X7_breaks_45 r' (Or.inl e) g)))
end QL
