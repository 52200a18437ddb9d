/-! questions of the class that only read the tower -/
def nn (a : Int32) : Nat := a.toInt.toNat
theorem nn_I {k : Nat} (h : k < 2 ^ 31) : nn (nI k) = k := by unfold nn; rw [nI_toInt h]; rfl
def q_at (σ : WS) (a : Int32) : QR := if inB a 0 7 then .inr (onI σ.2.1 a) else .inl 0
def q_personOf (σ : WS) (p w : Int32) : QR := if hasB σ.1.length p && inB w 0 8 then (if nn w = 8 then .inr (oI (courseF σ.2.1 (nn p) 0)) else .inr (nI (factP (pg σ.1 (nn p)) (nn w)))) else .inl 0
def q_of (σ : WS) (p w : Int32) : QR := if hasB σ.1.length p && inB w 0 4 then (match courseF σ.2.1 (nn p) 0 with
  | none => .inl 3
  | some k => .inr (if nn w = 0 then nI (massL σ.1 (σ.2.1.drop (k + 1))) else if nn w = 1 then sI (slackZ σ.1 σ.2.1 k) else if nn w = 2 then nI (tallL σ.1 (σ.2.1.take k)) else if nn w = 3 then bI (crushB σ.1 σ.2.1 k) else bI (shakeB σ.1 σ.2.2.1 σ.2.1 k))) else .inl 0
def q_stands (σ : WS) : QR := .inr (bI (firmB σ.1 σ.2.2.1 σ.2.1))
def q_weak (σ : WS) : QR := .inr (match weakF σ.1 σ.2.2.1 σ.2.1 with
  | none => -1
  | some k => nI (σ.2.1.getD k 0))
def q_height (σ : WS) : QR := .inr (nI (tallL σ.1 σ.2.1))
def q_least (σ : WS) (w : Int32) : QR := if inB w 0 1 then (if σ.2.1.length = 0 then .inl 3 else if nn w = 0 then .inr (sI (slackZ σ.1 σ.2.1 (leastK σ.1 σ.2.1))) else .inr (nI (σ.2.1.getD (leastK σ.1 σ.2.1) 0))) else .inl 0
def q_gale (σ : WS) : QR := .inr (oI (galeF σ.1 σ.2.1))
def q_chance (σ : WS) : QR := .inr ((oI (galeF σ.1 σ.2.1) + 1) * 100000)
def q_mass (σ : WS) : QR := .inr (nI (massL σ.1 σ.2.1))
def q_top (σ : WS) : QR := .inr (headI σ.2.1)
def q_fond (σ : WS) (p q : Int32) : QR := if hasB σ.1.length p && hasB σ.1.length q && decide (nn p ≠ nn q) then .inr (nI (fondP σ.1 (nn p) (nn q))) else .inl 0
def q_next (σ : WS) : QR := .inr (oI (behindF σ.1.length (roomL σ.2.2.2.1 σ.1.length σ.2.1)))
/-- gladness of a tower, of k neighbours -/
def gladL (P : List Pers) (L : List Nat) : Nat → Nat
  | 0 => 0
  | k + 1 => gladL P L k + fondP P (L.getD k 0) (L.getD (k + 1) 0)
def q_gladness (σ : WS) : QR := .inr (nI (gladL σ.1 σ.2.1 (σ.2.1.length - 1)))
def q_between (σ : WS) (c : Int32) : QR := if 0 ≤ c.toInt ∧ c.toInt + 1 < σ.2.1.length then .inr (nI (fondP σ.1 (σ.2.1.getD (nn c) 0) (σ.2.1.getD (nn c + 1) 0))) else .inl 0
def q_ofKind (σ : WS) (k : Int32) : QR := if inB k 0 5 then .inr (nI (sumN (fun p => if (pg σ.1 p).1 = nn k then 1 else 0) σ.1.length)) else .inl 0
def q_room (σ : WS) (m : Int32) : QR := if inB m 1 40 then (if σ.2.1.length = 0 then .inl 3 else .inr (nI (if slackZ σ.1 σ.2.1 (leastK σ.1 σ.2.1) < 0 then 0 else min 99 ((slackZ σ.1 σ.2.1 (leastK σ.1 σ.2.1)).toNat / nn m)))) else .inl 0
def q_needs (σ : WS) (p : Int32) : QR := if hasB σ.1.length p then (match courseF σ.2.1 (nn p) 0 with
  | none => .inl 3
  | some k => .inr (oI (firstFrom (fun s => decide (massL σ.1 (σ.2.1.drop (k + 1)) ≤ bearP (setP (pg σ.1 (nn p)) 3 s))) 100 0))) else .inl 0
def q_nerves (σ : WS) (p : Int32) : QR := if hasB σ.1.length p then (match courseF σ.2.1 (nn p) 0 with
  | none => .inl 3
  | some k => .inr (if tallL σ.1 (σ.2.1.take k) * σ.2.2.1 / 4 ≤ 40 then nI (tallL σ.1 (σ.2.1.take k) * σ.2.2.1 / 4) else -1)) else .inl 0
theorem courseF_lt {L : List Nat} {x k : Nat} (h : courseF L x 0 = some k) : k < L.length ∧ L.getD k 0 = x := by
  unfold courseF at h
  rw [List.drop_zero, Option.map_eq_some_iff] at h
  obtain ⟨a, h1, h2⟩ := h
  have h2 : a = k := h2
  subst h2
  obtain ⟨h3, h4, h5⟩ := List.findIdx?_eq_some_iff_getElem.mp h1
  refine ⟨h3, ?_⟩
  rw [List.getD_eq_getElem?_getD, List.getElem?_eq_getElem h3]
  simpa using h4
section QQ
variable {d : Nat} {h : PH} {x : Nat} {O : Nat → Prop} {T : TS}
theorem cq0 {M : JM} {as : List Value} {v : Int32} (hX : XS h x O T) (hj : JMt M (some .int) d as h (some (.int v)) h) : CQ M d as h x O T (.inr v) := ⟨h, hj, Upd.rf, hX⟩
theorem cqR {M : JM} {as : List Value} {k : Nat} (hk : k < 5) (hX : XS h x O T) (hj : ∀ h1, JMt mX7_refuse (some .int) (d + 9) [.ref x, .int (rfI k)] h (some (.int (rfI k))) h1 → hn h1 = hn h → JMt M (some .int) (d + 10) as h (some (.int (rfI k))) h1) : CQ M (d + 10) as h x O T (.inl k) := by
  obtain ⟨h1, a, b, c⟩ := refuse_x (d := d + 8) hk hX
  exact ⟨h1, hj h1 a b.1, b, c⟩
theorem c_at {a : Int32} (hX : XS h x O T) : CQ mX7_at (d + 10) [.ref x, .int a] h x O T (q_at T.1 a) := by
  have hX0 := hX
  obtain ⟨hT, δ, L, R, hC⟩ := hX
  have hC0 := hC
  obtain ⟨x1, x2, x3, x4, x5, x6, x7, x8, x9, x10, x11, x12, x13⟩ := hC
  obtain ⟨o1, o2, o3, o4, o5, o6⟩ := hT.1
  have g := x1.1
  have f0 := x1.2.1
  have f3 := x1.2.2.2.2.1
  have W1 := x3.1
  have Wc := x3.2.1
  have Wp := x3.2.2.1
  have C := x3.2.2.2.1
  have Pl := x3.2.2.2.2.1
  have hw := x3.2.2.2.2.2.1
  have hm := x3.2.2.2.2.2.2.1
  have n8 := C.2.2.2.2.1
  have ok := C.2.2.2.2.2.2
  have cn := C.2.2.2.1
  have l8 := Pl.2.2.2.2.2.1
  have sz := Pl.2.2.2.2.1
  unfold q_at
  cases hb : inB a 0 7 with
  | false =>
    rw [if_neg (by decide)]
    refine cqR (k := 0) (by omega) hX0 (fun h1 r e => jm mi_X7_at (Nat.le_of_ble_eq_true rfl) ⟨.int, rfl, rfl⟩ rfl (k_X7_at_0 (fun _ => k_X7_at_10 r (Or.inl e) g) (fun z => k_X7_at_4 (fun z2 => ?_) (fun _ => k_X7_at_10 r (Or.inl e) g))))
    rw [lt0I] at z
    rw [show (8 : Int32) = nI 8 from rfl, ltLit (by omega)] at z2
    exact absurd hb (by rw [show inB a 0 7 = true from decide_eq_true (by omega)]; decide)
  | true =>
    rw [if_pos rfl]
    have hb := of_decide_eq_true hb
    refine cq0 hX0 (jm mi_X7_at (Nat.le_of_ble_eq_true rfl) ⟨.int, rfl, rfl⟩ rfl (k_X7_at_0 (fun z => ?_) (fun z => k_X7_at_4 (fun z2 => k_X7_at_18 g f0 W1 Wp (t_onC Pl) (Or.inl rfl) Pl.1) (fun z2 => ?_))))
    · rw [lt0I] at z; omega
    · rw [show (8 : Int32) = nI 8 from rfl, ltLit (by omega)] at z2; omega
theorem c_stands (hX : XS h x O T) : CQ mX7_stands (d + 10) [.ref x] h x O T (q_stands T.1) := by
  have hX0 := hX
  obtain ⟨hT, δ, L, R, hC⟩ := hX
  have hC0 := hC
  obtain ⟨x1, x2, x3, x4, x5, x6, x7, x8, x9, x10, x11, x12, x13⟩ := hC
  obtain ⟨o1, o2, o3, o4, o5, o6⟩ := hT.1
  have g := x1.1
  have f0 := x1.2.1
  have f3 := x1.2.2.2.2.1
  have W1 := x3.1
  have Wc := x3.2.1
  have Wp := x3.2.2.1
  have C := x3.2.2.2.1
  have Pl := x3.2.2.2.2.1
  have hw := x3.2.2.2.2.2.1
  have hm := x3.2.2.2.2.2.2.1
  have n8 := C.2.2.2.2.1
  have ok := C.2.2.2.2.2.2
  have cn := C.2.2.2.1
  have l8 := Pl.2.2.2.2.2.1
  have sz := Pl.2.2.2.2.1
  exact cq0 hX0 (jm mi_X7_stands (Nat.le_of_ble_eq_true rfl) ⟨.int, rfl, rfl⟩ rfl (k_X7_stands_0 g f0 W1 Wp (by rw [hw]; exact t_isFirm C Pl o1 o4) (Or.inl rfl) Pl.1 t_oneIf (Or.inl rfl)))
theorem c_weak (hX : XS h x O T) : CQ mX7_weak (d + 10) [.ref x] h x O T (q_weak T.1) := by
  have hX0 := hX
  obtain ⟨hT, δ, L, R, hC⟩ := hX
  have hC0 := hC
  obtain ⟨x1, x2, x3, x4, x5, x6, x7, x8, x9, x10, x11, x12, x13⟩ := hC
  obtain ⟨o1, o2, o3, o4, o5, o6⟩ := hT.1
  have g := x1.1
  have f0 := x1.2.1
  have f3 := x1.2.2.2.2.1
  have W1 := x3.1
  have Wc := x3.2.1
  have Wp := x3.2.2.1
  have C := x3.2.2.2.1
  have Pl := x3.2.2.2.2.1
  have hw := x3.2.2.2.2.2.1
  have hm := x3.2.2.2.2.2.2.1
  have n8 := C.2.2.2.2.1
  have ok := C.2.2.2.2.2.2
  have cn := C.2.2.2.1
  have l8 := Pl.2.2.2.2.2.1
  have sz := Pl.2.2.2.2.1
  have hW := t_weakCourse (d := d + 7) C Pl o1 o4
  unfold q_weak
  cases hk : weakF T.1.1 T.1.2.2.1 T.1.2.1 with
  | none =>
    rw [hk] at hW
    exact cq0 hX0 (jm mi_X7_weak (Nat.le_of_ble_eq_true rfl) ⟨.int, rfl, rfl⟩ rfl (k_X7_weak_0 g f0 W1 Wp (by rw [hw]; exact hW) (Or.inl rfl) Pl.1 (t_onCourseN Pl (Or.inl (by decide))) (Or.inl rfl) Pl.1))
  | some k =>
    rw [hk] at hW
    exact cq0 hX0 (jm mi_X7_weak (Nat.le_of_ble_eq_true rfl) ⟨.int, rfl, rfl⟩ rfl (k_X7_weak_0 g f0 W1 Wp (by rw [hw]; exact hW) (Or.inl rfl) Pl.1 (t_onCourse Pl (weakF_lt hk)) (Or.inl rfl) Pl.1))
theorem c_height (hX : XS h x O T) : CQ mX7_height (d + 10) [.ref x] h x O T (q_height T.1) := by
  have hX0 := hX
  obtain ⟨hT, δ, L, R, hC⟩ := hX
  have hC0 := hC
  obtain ⟨x1, x2, x3, x4, x5, x6, x7, x8, x9, x10, x11, x12, x13⟩ := hC
  obtain ⟨o1, o2, o3, o4, o5, o6⟩ := hT.1
  have g := x1.1
  have f0 := x1.2.1
  have f3 := x1.2.2.2.2.1
  have W1 := x3.1
  have Wc := x3.2.1
  have Wp := x3.2.2.1
  have C := x3.2.2.2.1
  have Pl := x3.2.2.2.2.1
  have hw := x3.2.2.2.2.2.1
  have hm := x3.2.2.2.2.2.2.1
  have n8 := C.2.2.2.2.1
  have ok := C.2.2.2.2.2.2
  have cn := C.2.2.2.1
  have l8 := Pl.2.2.2.2.2.1
  have sz := Pl.2.2.2.2.1
  exact cq0 hX0 (jm mi_X7_height (Nat.le_of_ble_eq_true rfl) ⟨.int, rfl, rfl⟩ rfl (k_X7_height_0 g f0 W1 Wp (t_tallnessOfAll C Pl o1) (Or.inl rfl) Pl.1))
theorem c_mass (hX : XS h x O T) : CQ mX7_mass (d + 10) [.ref x] h x O T (q_mass T.1) := by
  have hX0 := hX
  obtain ⟨hT, δ, L, R, hC⟩ := hX
  have hC0 := hC
  obtain ⟨x1, x2, x3, x4, x5, x6, x7, x8, x9, x10, x11, x12, x13⟩ := hC
  obtain ⟨o1, o2, o3, o4, o5, o6⟩ := hT.1
  have g := x1.1
  have f0 := x1.2.1
  have f3 := x1.2.2.2.2.1
  have W1 := x3.1
  have Wc := x3.2.1
  have Wp := x3.2.2.1
  have C := x3.2.2.2.1
  have Pl := x3.2.2.2.2.1
  have hw := x3.2.2.2.2.2.1
  have hm := x3.2.2.2.2.2.2.1
  have n8 := C.2.2.2.2.1
  have ok := C.2.2.2.2.2.2
  have cn := C.2.2.2.1
  have l8 := Pl.2.2.2.2.2.1
  have sz := Pl.2.2.2.2.1
  exact cq0 hX0 (jm mi_X7_mass (Nat.le_of_ble_eq_true rfl) ⟨.int, rfl, rfl⟩ rfl (k_X7_mass_0 g f0 W1 Wp (t_loadAll C Pl o1) (Or.inl rfl) Pl.1))
theorem c_top (hX : XS h x O T) : CQ mX7_top (d + 10) [.ref x] h x O T (q_top T.1) := by
  have hX0 := hX
  obtain ⟨hT, δ, L, R, hC⟩ := hX
  have hC0 := hC
  obtain ⟨x1, x2, x3, x4, x5, x6, x7, x8, x9, x10, x11, x12, x13⟩ := hC
  obtain ⟨o1, o2, o3, o4, o5, o6⟩ := hT.1
  have g := x1.1
  have f0 := x1.2.1
  have f3 := x1.2.2.2.2.1
  have W1 := x3.1
  have Wc := x3.2.1
  have Wp := x3.2.2.1
  have C := x3.2.2.2.1
  have Pl := x3.2.2.2.2.1
  have hw := x3.2.2.2.2.2.1
  have hm := x3.2.2.2.2.2.2.1
  have n8 := C.2.2.2.2.1
  have ok := C.2.2.2.2.2.2
  have cn := C.2.2.2.1
  have l8 := Pl.2.2.2.2.2.1
  have sz := Pl.2.2.2.2.1
  exact cq0 hX0 (jm mi_X7_top (Nat.le_of_ble_eq_true rfl) ⟨.int, rfl, rfl⟩ rfl (k_X7_top_0 g f0 W1 Wp (tX2_head Pl) (Or.inl rfl) Pl.1))
theorem c_gale (hX : XS h x O T) : CQ mX7_gale (d + 10) [.ref x] h x O T (q_gale T.1) := by
  have hX0 := hX
  obtain ⟨hT, δ, L, R, hC⟩ := hX
  have hC0 := hC
  obtain ⟨x1, x2, x3, x4, x5, x6, x7, x8, x9, x10, x11, x12, x13⟩ := hC
  obtain ⟨o1, o2, o3, o4, o5, o6⟩ := hT.1
  have g := x1.1
  have f0 := x1.2.1
  have f3 := x1.2.2.2.2.1
  have W1 := x3.1
  have Wc := x3.2.1
  have Wp := x3.2.2.1
  have C := x3.2.2.2.1
  have Pl := x3.2.2.2.2.1
  have hw := x3.2.2.2.2.2.1
  have hm := x3.2.2.2.2.2.2.1
  have n8 := C.2.2.2.2.1
  have ok := C.2.2.2.2.2.2
  have cn := C.2.2.2.1
  have l8 := Pl.2.2.2.2.2.1
  have sz := Pl.2.2.2.2.1
  exact cq0 hX0 (jm mi_X7_gale (Nat.le_of_ble_eq_true rfl) ⟨.int, rfl, rfl⟩ rfl (k_X7_gale_0 g f0 W1 Wp (t_greatestWind C Pl o1) (Or.inl rfl) Pl.1))
theorem c_chance (hX : XS h x O T) : CQ mX7_chance (d + 10) [.ref x] h x O T (q_chance T.1) := by
  have hX0 := hX
  obtain ⟨hT, δ, L, R, hC⟩ := hX
  have hC0 := hC
  obtain ⟨x1, x2, x3, x4, x5, x6, x7, x8, x9, x10, x11, x12, x13⟩ := hC
  obtain ⟨o1, o2, o3, o4, o5, o6⟩ := hT.1
  have g := x1.1
  have f0 := x1.2.1
  have f3 := x1.2.2.2.2.1
  have W1 := x3.1
  have Wc := x3.2.1
  have Wp := x3.2.2.1
  have C := x3.2.2.2.1
  have Pl := x3.2.2.2.2.1
  have hw := x3.2.2.2.2.2.1
  have hm := x3.2.2.2.2.2.2.1
  have n8 := C.2.2.2.2.1
  have ok := C.2.2.2.2.2.2
  have cn := C.2.2.2.1
  have l8 := Pl.2.2.2.2.2.1
  have sz := Pl.2.2.2.2.1
  exact cq0 hX0 (jm mi_X7_chance (Nat.le_of_ble_eq_true rfl) ⟨.int, rfl, rfl⟩ rfl (k_X7_chance_0 g f0 W1 Wp (t_greatestWind C Pl o1) (Or.inl rfl) Pl.1))
theorem c_least {w : Int32} (hX : XS h x O T) : CQ mX7_least (d + 10) [.ref x, .int w] h x O T (q_least T.1 w) := by
  have hX0 := hX
  obtain ⟨hT, δ, L, R, hC⟩ := hX
  have hC0 := hC
  obtain ⟨x1, x2, x3, x4, x5, x6, x7, x8, x9, x10, x11, x12, x13⟩ := hC
  obtain ⟨o1, o2, o3, o4, o5, o6⟩ := hT.1
  have g := x1.1
  have f0 := x1.2.1
  have f3 := x1.2.2.2.2.1
  have W1 := x3.1
  have Wc := x3.2.1
  have Wp := x3.2.2.1
  have C := x3.2.2.2.1
  have Pl := x3.2.2.2.2.1
  have hw := x3.2.2.2.2.2.1
  have hm := x3.2.2.2.2.2.2.1
  have n8 := C.2.2.2.2.1
  have ok := C.2.2.2.2.2.2
  have cn := C.2.2.2.1
  have l8 := Pl.2.2.2.2.2.1
  have sz := Pl.2.2.2.2.1
  unfold q_least
  cases hb : inB w 0 1 with
  | false =>
    rw [if_neg (by decide)]
    have hb := of_decide_eq_false hb
    refine cqR (k := 0) (by omega) hX0 (fun h1 r e => jm mi_X7_least (Nat.le_of_ble_eq_true rfl) ⟨.int, rfl, rfl⟩ rfl (k_X7_least_0 (fun _ => k_X7_least_9 r (Or.inl e) g) (fun z => k_X7_least_4 (fun z2 => ?_) (fun _ => k_X7_least_9 r (Or.inl e) g))))
    rw [lt0I] at z
    rw [show (1 : Int32) = nI 1 from rfl, leLit (by omega)] at z2
    omega
  | true =>
    rw [if_pos rfl]
    obtain ⟨k, hk, rfl⟩ := inB_nI (n := 1) (by omega) hb
    rw [nn_I (by omega)]
    by_cases hl : T.1.2.1.length = 0
    · rw [if_pos hl]
      exact cqR (k := 3) (by omega) hX0 (fun h1 r e => jm mi_X7_least (Nat.le_of_ble_eq_true rfl) ⟨.int, rfl, rfl⟩ rfl (k_X7_least_0 (fun z => absurd z (nI_lt0 (by omega))) (fun _ => k_X7_least_4 (fun _ => k_X7_least_17 g f0 W1 Wp Pl.1 (fun z => absurd (by rw [sz, hl]; rfl) z) (fun _ => k_X7_least_30 r (Or.inl e) g)) (fun z => absurd (nI_le (b := 1) hk (by omega)) z))))
    · rw [if_neg hl]
      have h0 : 0 < T.1.2.1.length := by omega
      by_cases hk0 : k = 0
      · rw [if_pos hk0]
        exact cq0 hX0 (jm mi_X7_least (Nat.le_of_ble_eq_true rfl) ⟨.int, rfl, rfl⟩ rfl (k_X7_least_0 (fun z => absurd z (nI_lt0 (by omega))) (fun _ => k_X7_least_4 (fun _ => k_X7_least_17 g f0 W1 Wp Pl.1 (fun _ => k_X7_least_38 (fun z => absurd (by rw [hk0]; rfl) z) (fun _ => k_X7_least_42 g f0 W1 Wp (t_leastSlack C Pl o1 h0) (Or.inl rfl) Pl.1 k_X7_least_75)) (fun z => absurd z (by rw [sz]; exact nI_ne0 h0 (by omega)))) (fun z => absurd (nI_le (b := 1) hk (by omega)) z))))
      · rw [if_neg hk0]
        exact cq0 hX0 (jm mi_X7_least (Nat.le_of_ble_eq_true rfl) ⟨.int, rfl, rfl⟩ rfl (k_X7_least_0 (fun z => absurd z (nI_lt0 (by omega))) (fun _ => k_X7_least_4 (fun _ => k_X7_least_17 g f0 W1 Wp Pl.1 (fun _ => k_X7_least_38 (fun _ => k_X7_least_55 g f0 W1 Wp (t_leastCourse C Pl o1 h0) (Or.inl rfl) Pl.1 (t_onCourse Pl (leastK_lt h0)) (Or.inl rfl) Pl.1 k_X7_least_75) (fun z => absurd z (nI_ne0 (by omega) (by omega)))) (fun z => absurd z (by rw [sz]; exact nI_ne0 h0 (by omega)))) (fun z => absurd (nI_le (b := 1) hk (by omega)) z))))
theorem c_personOf {p w : Int32} (hX : XS h x O T) : CQ mX7_personOf (d + 10) [.ref x, .int p, .int w] h x O T (q_personOf T.1 p w) := by
  have hX0 := hX
  obtain ⟨hT, δ, L, R, hC⟩ := hX
  have hC0 := hC
  obtain ⟨x1, x2, x3, x4, x5, x6, x7, x8, x9, x10, x11, x12, x13⟩ := hC
  obtain ⟨o1, o2, o3, o4, o5, o6⟩ := hT.1
  have g := x1.1
  have f0 := x1.2.1
  have f3 := x1.2.2.2.2.1
  have W1 := x3.1
  have Wc := x3.2.1
  have Wp := x3.2.2.1
  have C := x3.2.2.2.1
  have Pl := x3.2.2.2.2.1
  have hw := x3.2.2.2.2.2.1
  have hm := x3.2.2.2.2.2.2.1
  have n8 := C.2.2.2.2.1
  have ok := C.2.2.2.2.2.2
  have cn := C.2.2.2.1
  have l8 := Pl.2.2.2.2.2.1
  have sz := Pl.2.2.2.2.1
  have hH := t_hasB (d := d + 9) (v := p) C
  unfold q_personOf
  cases hp : hasB T.1.1.length p with
  | false =>
    rw [hp] at hH
    rw [Bool.false_and, if_neg (by decide)]
    exact cqR (k := 0) (by omega) hX0 (fun h1 r e => jm mi_X7_personOf (Nat.le_of_ble_eq_true rfl) ⟨.int, rfl, rfl⟩ rfl (k_X7_personOf_0 g f0 W1 Wc hH (Or.inl rfl) C.1 (fun _ => k_X7_personOf_24 r (Or.inl e) g) (fun z => absurd rfl z)))
  | true =>
    rw [hp] at hH
    rw [Bool.true_and]
    obtain ⟨i, hi, rfl⟩ := hasB_nI hp
    cases hb : inB w 0 8 with
    | false =>
      rw [if_neg (by decide)]
      have hb := of_decide_eq_false hb
      refine cqR (k := 0) (by omega) hX0 (fun h1 r e => jm mi_X7_personOf (Nat.le_of_ble_eq_true rfl) ⟨.int, rfl, rfl⟩ rfl (k_X7_personOf_0 g f0 W1 Wc hH (Or.inl rfl) C.1 (fun z => absurd z (by decide)) (fun _ => k_X7_personOf_14 (fun _ => k_X7_personOf_24 r (Or.inl e) g) (fun z => k_X7_personOf_18 (fun z2 => ?_) (fun _ => k_X7_personOf_24 r (Or.inl e) g)))))
      rw [lt0I] at z
      rw [show (8 : Int32) = nI 8 from rfl, leLit (by omega)] at z2
      omega
    | true =>
      rw [if_pos rfl]
      obtain ⟨k, hk, rfl⟩ := inB_nI (n := 8) (by omega) hb
      rw [nn_I (by omega), nn_I (by omega)]
      have ent : ∀ {o : Option Value} {h' : PH}, RetT (some .int) o → J mX7_personOf (d + 10) 32 [some (.ref x), some (.int (nI i)), some (.int (nI k))] [] h o h' → JMt mX7_personOf (some .int) (d + 10) [.ref x, .int (nI i), .int (nI k)] h o h' := fun rt kk =>
        jm mi_X7_personOf (Nat.le_of_ble_eq_true rfl) rt rfl (k_X7_personOf_0 g f0 W1 Wc hH (Or.inl rfl) C.1 (fun z => absurd z (by decide)) (fun _ => k_X7_personOf_14 (fun z => absurd z (nI_lt0 (by omega))) (fun z => k_X7_personOf_18 (fun _ => kk) (fun z => absurd (nI_le (b := 8) hk (by omega)) z))))
      by_cases hk8 : k = 8
      · rw [if_pos hk8]
        exact cq0 hX0 (ent ⟨.int, rfl, rfl⟩ (k_X7_personOf_32 (fun z => absurd (by rw [hk8]; rfl) z) (fun _ => k_X7_personOf_38 g f0 W1 Wp (t_courseOf Pl o1 n8 (by omega)) (Or.inl rfl) Pl.1 k_X7_personOf_64)))
      · rw [if_neg hk8]
        exact cq0 hX0 (ent ⟨.int, rfl, rfl⟩ (k_X7_personOf_32 (fun _ => k_X7_personOf_52 g f0 W1 Wc (t_fact C hi (by omega)) (Or.inl rfl) C.1 k_X7_personOf_64) (fun z => absurd ((nI_eq (b := 8) (by omega) (by omega)).mp z) hk8)))
theorem c_of {p w : Int32} (hX : XS h x O T) : CQ mX7_of (d + 10) [.ref x, .int p, .int w] h x O T (q_of T.1 p w) := by
  have hX0 := hX
  obtain ⟨hT, δ, L, R, hC⟩ := hX
  have hC0 := hC
  obtain ⟨x1, x2, x3, x4, x5, x6, x7, x8, x9, x10, x11, x12, x13⟩ := hC
  obtain ⟨o1, o2, o3, o4, o5, o6⟩ := hT.1
  have g := x1.1
  have f0 := x1.2.1
  have f3 := x1.2.2.2.2.1
  have W1 := x3.1
  have Wc := x3.2.1
  have Wp := x3.2.2.1
  have C := x3.2.2.2.1
  have Pl := x3.2.2.2.2.1
  have hw := x3.2.2.2.2.2.1
  have hm := x3.2.2.2.2.2.2.1
  have n8 := C.2.2.2.2.1
  have ok := C.2.2.2.2.2.2
  have cn := C.2.2.2.1
  have l8 := Pl.2.2.2.2.2.1
  have sz := Pl.2.2.2.2.1
  have hH := t_hasB (d := d + 9) (v := p) C
  unfold q_of
  cases hp : hasB T.1.1.length p with
  | false =>
    rw [hp] at hH
    rw [Bool.false_and, if_neg (by decide)]
    exact cqR (k := 0) (by omega) hX0 (fun h1 r e => jm mi_X7_of (Nat.le_of_ble_eq_true rfl) ⟨.int, rfl, rfl⟩ rfl (k_X7_of_0 g f0 W1 Wc hH (Or.inl rfl) C.1 (fun _ => k_X7_of_23 r (Or.inl e) g) (fun z => absurd rfl z)))
  | true =>
    rw [hp] at hH
    rw [Bool.true_and]
    obtain ⟨i, hi, rfl⟩ := hasB_nI hp
    cases hb : inB w 0 4 with
    | false =>
      rw [if_neg (by decide)]
      have hb := of_decide_eq_false hb
      refine cqR (k := 0) (by omega) hX0 (fun h1 r e => jm mi_X7_of (Nat.le_of_ble_eq_true rfl) ⟨.int, rfl, rfl⟩ rfl (k_X7_of_0 g f0 W1 Wc hH (Or.inl rfl) C.1 (fun z => absurd z (by decide)) (fun _ => k_X7_of_14 (fun _ => k_X7_of_23 r (Or.inl e) g) (fun z => k_X7_of_18 (fun z2 => ?_) (fun _ => k_X7_of_23 r (Or.inl e) g)))))
      rw [lt0I] at z
      rw [show (4 : Int32) = nI 4 from rfl, leLit (by omega)] at z2
      omega
    | true =>
      rw [if_pos rfl]
      obtain ⟨w, hw4, rfl⟩ := inB_nI (n := 4) (by omega) hb
      rw [nn_I (by omega), nn_I (by omega)]
      have hc := t_courseOf (d := d + 8) (x := i) Pl o1 n8 (by omega)
      cases hk : courseF T.1.2.1 i 0 with
      | none =>
        rw [hk] at hc
        exact cqR (k := 3) (by omega) hX0 (fun h1 r e => jm mi_X7_of (Nat.le_of_ble_eq_true rfl) ⟨.int, rfl, rfl⟩ rfl (k_X7_of_0 g f0 W1 Wc hH (Or.inl rfl) C.1 (fun z => absurd z (by decide)) (fun _ => k_X7_of_14 (fun z => absurd z (nI_lt0 (by omega))) (fun z => k_X7_of_18 (fun _ => k_X7_of_31 g f0 W1 Wp hc (Or.inl rfl) Pl.1 (fun z => absurd rfl z) (fun _ => k_X7_of_48 r (Or.inl e) g)) (fun z => absurd (nI_le (b := 4) hw4 (by omega)) z)))))
      | some k =>
        rw [hk] at hc
        obtain ⟨hkl, -⟩ := courseF_lt hk
        dsimp only
        have ent : ∀ {v : Int32}, J mX7_of (d + 10) 56 [some (.ref x), some (.int (nI i)), some (.int (nI w)), some (.int (nI k))] [] h (some (.int v)) h → CQ mX7_of (d + 10) [.ref x, .int (nI i), .int (nI w)] h x O T (.inr v) := fun kk => cq0 hX0 (jm mi_X7_of (Nat.le_of_ble_eq_true rfl) ⟨.int, rfl, rfl⟩ rfl (k_X7_of_0 g f0 W1 Wc hH (Or.inl rfl) C.1 (fun z => absurd z (by decide)) (fun _ => k_X7_of_14 (fun z => absurd z (nI_lt0 (by omega))) (fun z => k_X7_of_18 (fun _ => k_X7_of_31 g f0 W1 Wp hc (Or.inl rfl) Pl.1 (fun _ => kk) (fun z => absurd z (nI_nneg1 (by omega)))) (fun z => absurd (nI_le (b := 4) hw4 (by omega)) z)))))
        have ww : (nI w).toInt = w := nI_toInt (by omega)
        rcases le4 hw4 with rfl | rfl | rfl | rfl | rfl
        · exact ent (k_X7_of_56 (fun z => absurd z (by omega)) (fun _ => k_X7_of_88 g f0 W1 Wp (t_loadAt C Pl o1 hkl) (Or.inl rfl) Pl.1) (fun z => absurd z (by decide)) (fun z => absurd z (by decide)) (fun z => absurd z (by decide)))
        · exact ent (k_X7_of_56 (fun z => absurd z (by omega)) (fun z => absurd z (by decide)) (fun _ => k_X7_of_100 g f0 W1 Wp (t_slackAt C Pl o1 hkl) (Or.inl rfl) Pl.1) (fun z => absurd z (by decide)) (fun z => absurd z (by decide)))
        · exact ent (k_X7_of_56 (fun z => absurd z (by omega)) (fun z => absurd z (by decide)) (fun z => absurd z (by decide)) (fun _ => k_X7_of_112 g f0 W1 Wp (t_upAt C Pl o1 (by omega)) (Or.inl rfl) Pl.1) (fun z => absurd z (by decide)))
        · exact ent (k_X7_of_56 (fun z => absurd z (by omega)) (fun z => absurd z (by decide)) (fun z => absurd z (by decide)) (fun z => absurd z (by decide)) (fun _ => k_X7_of_124 g f0 W1 Wp (t_isCrushed C Pl o1 hkl) (Or.inl rfl) Pl.1 t_oneIf (Or.inl rfl)))
        · exact ent (k_X7_of_56 (fun _ => k_X7_of_139 g f0 W1 Wp (by rw [hw]; exact t_isShaken C Pl o1 hkl o4) (Or.inl rfl) Pl.1 t_oneIf (Or.inl rfl)) (fun z => absurd z (by decide)) (fun z => absurd z (by decide)) (fun z => absurd z (by decide)) (fun z => absurd z (by decide)))
theorem c_fond {p q : Int32} (hX : XS h x O T) : CQ mX7_fond (d + 10) [.ref x, .int p, .int q] h x O T (q_fond T.1 p q) := by
  have hX0 := hX
  obtain ⟨hT, δ, L, R, hC⟩ := hX
  have hC0 := hC
  obtain ⟨x1, x2, x3, x4, x5, x6, x7, x8, x9, x10, x11, x12, x13⟩ := hC
  obtain ⟨o1, o2, o3, o4, o5, o6⟩ := hT.1
  have g := x1.1
  have f0 := x1.2.1
  have f3 := x1.2.2.2.2.1
  have W1 := x3.1
  have Wc := x3.2.1
  have Wp := x3.2.2.1
  have C := x3.2.2.2.1
  have Pl := x3.2.2.2.2.1
  have hw := x3.2.2.2.2.2.1
  have hm := x3.2.2.2.2.2.2.1
  have n8 := C.2.2.2.2.1
  have ok := C.2.2.2.2.2.2
  have cn := C.2.2.2.1
  have l8 := Pl.2.2.2.2.2.1
  have sz := Pl.2.2.2.2.1
  have hH := t_hasB (d := d + 9) (v := p) C
  have hG := t_hasB (d := d + 9) (v := q) C
  unfold q_fond
  cases hp : hasB T.1.1.length p with
  | false =>
    rw [hp] at hH
    rw [Bool.false_and, Bool.false_and, if_neg (by decide)]
    exact cqR (k := 0) (by omega) hX0 (fun h1 r e => jm mi_X7_fond (Nat.le_of_ble_eq_true rfl) ⟨.int, rfl, rfl⟩ rfl (k_X7_fond_0 g f0 W1 Wc hH (Or.inl rfl) C.1 (fun _ => k_X7_fond_33 r (Or.inl e) g) (fun z => absurd rfl z)))
  | true =>
    rw [hp] at hH
    rw [Bool.true_and]
    obtain ⟨i, hi, rfl⟩ := hasB_nI hp
    cases hq : hasB T.1.1.length q with
    | false =>
      rw [hq] at hG
      rw [Bool.false_and, if_neg (by decide)]
      exact cqR (k := 0) (by omega) hX0 (fun h1 r e => jm mi_X7_fond (Nat.le_of_ble_eq_true rfl) ⟨.int, rfl, rfl⟩ rfl (k_X7_fond_0 g f0 W1 Wc hH (Or.inl rfl) C.1 (fun z => absurd z (by decide)) (fun _ => k_X7_fond_14 g f0 W1 Wc hG (Or.inl rfl) C.1 (fun _ => k_X7_fond_33 r (Or.inl e) g) (fun z => absurd rfl z))))
    | true =>
      rw [hq] at hG
      rw [Bool.true_and]
      obtain ⟨j, hj, rfl⟩ := hasB_nI hq
      rw [nn_I (by omega), nn_I (by omega)]
      by_cases hij : i = j
      · rw [if_neg (by rw [decide_eq_true_eq]; omega)]
        exact cqR (k := 0) (by omega) hX0 (fun h1 r e => jm mi_X7_fond (Nat.le_of_ble_eq_true rfl) ⟨.int, rfl, rfl⟩ rfl (k_X7_fond_0 g f0 W1 Wc hH (Or.inl rfl) C.1 (fun z => absurd z (by decide)) (fun _ => k_X7_fond_14 g f0 W1 Wc hG (Or.inl rfl) C.1 (fun z => absurd z (by decide)) (fun _ => k_X7_fond_28 (fun z => absurd (by rw [hij]) z) (fun _ => k_X7_fond_33 r (Or.inl e) g)))))
      · rw [if_pos (by rw [decide_eq_true_eq]; omega)]
        exact cq0 hX0 (jm mi_X7_fond (Nat.le_of_ble_eq_true rfl) ⟨.int, rfl, rfl⟩ rfl (k_X7_fond_0 g f0 W1 Wc hH (Or.inl rfl) C.1 (fun z => absurd z (by decide)) (fun _ => k_X7_fond_14 g f0 W1 Wc hG (Or.inl rfl) C.1 (fun z => absurd z (by decide)) (fun _ => k_X7_fond_28 (fun _ => k_X7_fond_41 g f0 W1 Wc (t_fondness C hi hj) (Or.inl rfl) C.1) (fun z => absurd ((nI_eq (by omega) (by omega)).mp z) hij)))))
theorem l_gladness (hX : XS h x O T) : ∀ m j, T.1.2.1.length - (j + 1) = m → j ≤ 8 → J mX7_gladness (d + 10) 4 [some (.ref x), some (.int (nI (gladL T.1.1 T.1.2.1 j))), some (.int (nI (j + 1)))] [] h (some (.int (nI (gladL T.1.1 T.1.2.1 (j + m))))) h := by
  have hX0 := hX
  obtain ⟨hT, δ, L, R, hC⟩ := hX
  have hC0 := hC
  obtain ⟨x1, x2, x3, x4, x5, x6, x7, x8, x9, x10, x11, x12, x13⟩ := hC
  obtain ⟨o1, o2, o3, o4, o5, o6⟩ := hT.1
  have g := x1.1
  have f0 := x1.2.1
  have f3 := x1.2.2.2.2.1
  have W1 := x3.1
  have Wc := x3.2.1
  have Wp := x3.2.2.1
  have C := x3.2.2.2.1
  have Pl := x3.2.2.2.2.1
  have hw := x3.2.2.2.2.2.1
  have hm := x3.2.2.2.2.2.2.1
  have n8 := C.2.2.2.2.1
  have ok := C.2.2.2.2.2.2
  have cn := C.2.2.2.1
  have l8 := Pl.2.2.2.2.2.1
  have sz := Pl.2.2.2.2.1
  intro m
  induction m with
  | zero =>
    intro j hj hj8
    exact k_X7_gladness_4 g f0 W1 Wp Pl.1 (fun _ => k_X7_gladness_61) (fun z => absurd (by rw [sz]; exact nI_le (by omega) (by omega)) z)
  | succ m ih =>
    intro j hj hj8
    have hjl : j + 1 < T.1.2.1.length := by omega
    refine k_X7_gladness_4 g f0 W1 Wp Pl.1 (fun z => absurd z (by rw [sz]; exact nI_ge hjl (by omega))) (fun _ => k_X7_gladness_18 g f0 W1 Wc Wp (by rw [nI_pred]; exact t_onCourse Pl (by omega)) (Or.inl rfl) Pl.1 g f0 W1 Wp (t_onCourse Pl hjl) (Or.inl rfl) Pl.1 (t_fondness C (o1 _ (getD_mem (by omega))) (o1 _ (getD_mem hjl))) (Or.inl rfl) C.1 ?_)
    rw [nI_add, nI_1]
    have := ih (j + 1) (by omega) (by omega)
    rw [show j + 1 + m = j + (m + 1) by omega] at this
    exact this
theorem c_gladness (hX : XS h x O T) : CQ mX7_gladness (d + 10) [.ref x] h x O T (q_gladness T.1) := by
  have := l_gladness (d := d) hX _ 0 rfl (by omega)
  rw [Nat.zero_add (T.1.2.1.length - (0 + 1))] at this
  exact cq0 hX (jm mi_X7_gladness (Nat.le_of_ble_eq_true rfl) ⟨.int, rfl, rfl⟩ rfl (k_X7_gladness_0 this))
theorem c_between {c : Int32} (hX : XS h x O T) : CQ mX7_between (d + 10) [.ref x, .int c] h x O T (q_between T.1 c) := by
  have hX0 := hX
  obtain ⟨hT, δ, L, R, hC⟩ := hX
  have hC0 := hC
  obtain ⟨x1, x2, x3, x4, x5, x6, x7, x8, x9, x10, x11, x12, x13⟩ := hC
  obtain ⟨o1, o2, o3, o4, o5, o6⟩ := hT.1
  have g := x1.1
  have f0 := x1.2.1
  have f3 := x1.2.2.2.2.1
  have W1 := x3.1
  have Wc := x3.2.1
  have Wp := x3.2.2.1
  have C := x3.2.2.2.1
  have Pl := x3.2.2.2.2.1
  have hw := x3.2.2.2.2.2.1
  have hm := x3.2.2.2.2.2.2.1
  have n8 := C.2.2.2.2.1
  have ok := C.2.2.2.2.2.2
  have cn := C.2.2.2.1
  have l8 := Pl.2.2.2.2.2.1
  have sz := Pl.2.2.2.2.1
  unfold q_between
  have h1 := t_onC (d := d + 8) (a := c) Pl
  by_cases z : 0 ≤ c.toInt ∧ c.toInt < T.1.2.1.length
  · obtain ⟨k, k1, rfl⟩ := inr (x := c) (n := T.1.2.1.length) (by rw [lt0I]; omega) z.2
    rw [onI_nI k1 l8] at h1
    rw [nI_toInt (by omega), nn_I (by omega)]
    have hxk := o1 _ (getD_mem k1)
    have h2 := t_onC (d := d + 8) (a := nI k + (1 : Int32)) Pl
    rw [nI_1] at h2
    by_cases z2 : k + 1 < T.1.2.1.length
    · rw [onI_nI z2 l8] at h2
      have hxk2 := o1 _ (getD_mem z2)
      rw [if_pos (by omega)]
      exact cq0 hX0 (jm mi_X7_between (Nat.le_of_ble_eq_true rfl) ⟨.int, rfl, rfl⟩ rfl (k_X7_between_0 g f0 W1 Wp h1 (Or.inl rfl) Pl.1 (fun _ => k_X7_between_21 g f0 W1 Wp (by rw [nI_1]; exact h2) (Or.inl rfl) Pl.1 (k_X7_between_34 (fun _ => k_X7_between_48 g f0 W1 Wc (t_fondness C hxk hxk2) (Or.inl rfl) C.1) (fun w => absurd w (nI_nneg1 (by omega))))) (fun w => absurd w (nI_nneg1 (by omega)))))
    · have e : onI T.1.2.1 (nI (k + 1)) = -1 := by unfold onI; rw [nI_toInt (by omega), if_neg (by omega)]
      rw [e] at h2
      rw [if_neg (by omega)]
      exact cqR (k := 0) (by omega) hX0 (fun h1' r e => jm mi_X7_between (Nat.le_of_ble_eq_true rfl) ⟨.int, rfl, rfl⟩ rfl (k_X7_between_0 g f0 W1 Wp h1 (Or.inl rfl) Pl.1 (fun _ => k_X7_between_21 g f0 W1 Wp (by rw [nI_1]; exact h2) (Or.inl rfl) Pl.1 (k_X7_between_34 (fun w => absurd rfl w) (fun w => k_X7_between_40 r (Or.inl e) g))) (fun w => absurd w (nI_nneg1 (by omega)))))
  · have e : onI T.1.2.1 c = -1 := by unfold onI; rw [if_neg z]
    rw [e] at h1
    rw [if_neg (by omega)]
    exact cqR (k := 0) (by omega) hX0 (fun h1' r e => jm mi_X7_between (Nat.le_of_ble_eq_true rfl) ⟨.int, rfl, rfl⟩ rfl (k_X7_between_0 g f0 W1 Wp h1 (Or.inl rfl) Pl.1 (fun w => absurd rfl w) (fun _ => k_X7_between_17 (k_X7_between_34 (fun w => absurd rfl w) (fun w => k_X7_between_40 r (Or.inl e) g)))))
theorem l_ofKind {k : Nat} (hk : k ≤ 5) (hX : XS h x O T) : ∀ m j, T.1.1.length - j = m → j ≤ T.1.1.length → J mX7_ofKind (d + 10) 19 [some (.ref x), some (.int (nI k)), some (.int (nI (sumN (fun p => if (pg T.1.1 p).1 = k then 1 else 0) j))), some (.int (nI j))] [] h (some (.int (nI (sumN (fun p => if (pg T.1.1 p).1 = k then 1 else 0) T.1.1.length)))) h := by
  have hX0 := hX
  obtain ⟨hT, δ, L, R, hC⟩ := hX
  have hC0 := hC
  obtain ⟨x1, x2, x3, x4, x5, x6, x7, x8, x9, x10, x11, x12, x13⟩ := hC
  obtain ⟨o1, o2, o3, o4, o5, o6⟩ := hT.1
  have g := x1.1
  have f0 := x1.2.1
  have f3 := x1.2.2.2.2.1
  have W1 := x3.1
  have Wc := x3.2.1
  have Wp := x3.2.2.1
  have C := x3.2.2.2.1
  have Pl := x3.2.2.2.2.1
  have hw := x3.2.2.2.2.2.1
  have hm := x3.2.2.2.2.2.2.1
  have n8 := C.2.2.2.2.1
  have ok := C.2.2.2.2.2.2
  have cn := C.2.2.2.1
  have l8 := Pl.2.2.2.2.2.1
  have sz := Pl.2.2.2.2.1
  intro m
  induction m with
  | zero =>
    intro j hj hl
    have e : j = T.1.1.length := by omega
    rw [e]
    exact k_X7_ofKind_19 g f0 W1 Wc C.1 (fun _ => k_X7_ofKind_58) (fun z => absurd (by rw [cn]; exact nI_le (by omega) (by omega)) z)
  | succ m ih =>
    intro j hj hl
    have hjl : j < T.1.1.length := by omega
    have nx := ih (j + 1) (by omega) (by omega)
    rw [sumN] at nx
    have b5 := (pg_ok ok j).1
    have e0 : factP (pg T.1.1 j) 0 = (pg T.1.1 j).1 := rfl
    refine k_X7_ofKind_19 g f0 W1 Wc C.1 (fun z => absurd z (by rw [cn]; exact nI_ge hjl (by omega))) (fun _ => k_X7_ofKind_33 g f0 W1 Wc (t_fact (w := 0) C hjl (by omega)) (Or.inl rfl) C.1 (fun z => k_X7_ofKind_52 ?_) (fun z => k_X7_ofKind_49 (k_X7_ofKind_52 ?_)))
    · rw [e0, nI_eq (by omega) (by omega)] at z
      rw [if_neg z, Nat.add_zero] at nx
      rw [nI_1]; exact nx
    · rw [e0, nI_eq (by omega) (by omega)] at z
      rw [if_pos z] at nx
      rw [nI_1, nI_1]; exact nx
theorem c_ofKind {k : Int32} (hX : XS h x O T) : CQ mX7_ofKind (d + 10) [.ref x, .int k] h x O T (q_ofKind T.1 k) := by
  have g := hX.2.choose_spec.choose_spec.choose_spec.1.1
  have hK := t_isKind (d := d + 9) (h := h) (s := k)
  unfold q_ofKind
  cases hb : inB k 0 5 with
  | false =>
    rw [hb] at hK
    rw [if_neg (by decide)]
    exact cqR (k := 0) (by omega) hX (fun h1 r e => jm mi_X7_ofKind (Nat.le_of_ble_eq_true rfl) ⟨.int, rfl, rfl⟩ rfl (k_X7_ofKind_0 hK (Or.inl rfl) (fun z => absurd rfl z) (fun _ => k_X7_ofKind_7 r (Or.inl e) g)))
  | true =>
    rw [hb] at hK
    rw [if_pos rfl]
    obtain ⟨k, hk, rfl⟩ := inB_nI (n := 5) (by omega) hb
    rw [nn_I (by omega)]
    exact cq0 hX (jm mi_X7_ofKind (Nat.le_of_ble_eq_true rfl) ⟨.int, rfl, rfl⟩ rfl (k_X7_ofKind_0 hK (Or.inl rfl) (fun _ => k_X7_ofKind_15 (l_ofKind (d := d) hk hX _ 0 rfl (Nat.zero_le _))) (fun z => absurd z (by decide))))
theorem c_room {m : Int32} (hX : XS h x O T) : CQ mX7_room (d + 10) [.ref x, .int m] h x O T (q_room T.1 m) := by
  have hX0 := hX
  obtain ⟨hT, δ, L, R, hC⟩ := hX
  have hC0 := hC
  obtain ⟨x1, x2, x3, x4, x5, x6, x7, x8, x9, x10, x11, x12, x13⟩ := hC
  obtain ⟨o1, o2, o3, o4, o5, o6⟩ := hT.1
  have g := x1.1
  have f0 := x1.2.1
  have f3 := x1.2.2.2.2.1
  have W1 := x3.1
  have Wc := x3.2.1
  have Wp := x3.2.2.1
  have C := x3.2.2.2.1
  have Pl := x3.2.2.2.2.1
  have hw := x3.2.2.2.2.2.1
  have hm := x3.2.2.2.2.2.2.1
  have n8 := C.2.2.2.2.1
  have ok := C.2.2.2.2.2.2
  have cn := C.2.2.2.1
  have l8 := Pl.2.2.2.2.2.1
  have sz := Pl.2.2.2.2.1
  have hB := t_mayBe (d := d + 8) (h := h) (k := 2) (v := m) (by omega)
  have eB : mayB 2 m.toInt = inB m 1 40 := rfl
  rw [eB] at hB
  unfold q_room
  cases hb : inB m 1 40 with
  | false =>
    rw [hb] at hB
    rw [if_neg (by decide)]
    exact cqR (k := 0) (by omega) hX0 (fun h1 r e => jm mi_X7_room (Nat.le_of_ble_eq_true rfl) ⟨.int, rfl, rfl⟩ rfl (k_X7_room_0 hB (Or.inl rfl) (fun z => absurd rfl z) (fun _ => k_X7_room_8 r (Or.inl e) g)))
  | true =>
    rw [hb] at hB
    rw [if_pos rfl]
    have hbb := of_decide_eq_true hb
    obtain ⟨m, hm0, rfl⟩ := inr (x := m) (n := 41) (by rw [lt0I]; omega) (by omega)
    rw [nI_toInt (by omega)] at hbb
    rw [nn_I (by omega)]
    by_cases hl : T.1.2.1.length = 0
    · rw [if_pos hl]
      exact cqR (k := 3) (by omega) hX0 (fun h1 r e => jm mi_X7_room (Nat.le_of_ble_eq_true rfl) ⟨.int, rfl, rfl⟩ rfl (k_X7_room_0 hB (Or.inl rfl) (fun _ => k_X7_room_16 g f0 W1 Wp Pl.1 (fun z => absurd (by rw [sz, hl]; rfl) z) (fun _ => k_X7_room_29 r (Or.inl e) g)) (fun z => absurd z (by decide))))
    · rw [if_neg hl]
      have h0 : 0 < T.1.2.1.length := by omega
      have hb1 := slackZ_b (P := T.1.1) (L := T.1.2.1) ok l8 (leastK T.1.1 T.1.2.1)
      have hS := t_leastSlack (d := d + 5) C Pl o1 h0
      generalize slackZ T.1.1 T.1.2.1 (leastK T.1.1 T.1.2.1) = s at hb1 hS ⊢
      have ent : ∀ {v : Int32}, (sI s < 0 → J mX7_room (d + 10) 56 [some (.ref x), some (.int (nI m)), some (.int (sI s))] [] h (some (.int v)) h) → (¬ sI s < 0 → J mX7_room (d + 10) 52 [some (.ref x), some (.int (nI m)), some (.int (sI s))] [] h (some (.int v)) h) → CQ mX7_room (d + 10) [.ref x, .int (nI m)] h x O T (.inr v) := fun k1 k2 =>
        cq0 hX0 (jm mi_X7_room (Nat.le_of_ble_eq_true rfl) ⟨.int, rfl, rfl⟩ rfl (k_X7_room_0 hB (Or.inl rfl) (fun _ => k_X7_room_16 g f0 W1 Wp Pl.1 (fun _ => k_X7_room_37 g f0 W1 Wp hS (Or.inl rfl) Pl.1 k1 k2) (fun z => absurd z (by rw [sz]; exact nI_ne0 h0 (by omega)))) (fun z => absurd z (by decide))))
      refine ent (fun z => ?_) (fun z => k_X7_room_52 (fun _ => k_X7_room_60 (nI_ne0 (by omega) (by omega)) ?_) (fun z2 => absurd (nI_lt (a := 0) (by omega) (by omega)) z2))
      · rw [show (0 : Int32) = sI 0 from rfl, sI_lt (by omega) (by omega) (by omega) (by omega)] at z
        rw [if_pos z]
        exact k_X7_room_56 k_X7_room_68
      · rw [show (0 : Int32) = sI 0 from rfl, sI_lt (by omega) (by omega) (by omega) (by omega)] at z
        rw [if_neg z]
        have es : sI s = nI s.toNat := by rw [nI_sI]; congr 1; omega
        have hq : s.toNat / m < 2 ^ 31 := Nat.lt_of_le_of_lt (Nat.div_le_self _ _) (by omega)
        have e9 : (if nI s.toNat / nI m < (99 : Int32) then nI s.toNat / nI m else (99 : Int32)) = nI (min 99 (s.toNat / m)) := by
          rw [pk_div (by omega) (by omega) (by omega), show (99 : Int32) = nI 99 from rfl]
          by_cases y : s.toNat / m < 99
          · rw [if_pos (nI_lt y (by omega))]; congr 1; omega
          · rw [if_neg (nI_nlt (by omega) hq)]; congr 1; omega
        rw [es, e9]
        exact k_X7_room_68
theorem l_needs {k a load : Nat} {y1 y2 : Int32} (hk : k ≤ 5) (ha : a ≤ 9) (hl : load ≤ 392) : ∀ m j, 100 - j = m → j ≤ 100 → J mX7_needs (d + 10) 90 [some (.ref x), some (.int y1), some (.int y2), some (.int (nI load)), some (.int (nI k)), some (.int (nI a)), some (.int (nI j))] [] h (some (.int (oI (firstFrom (fun s => decide (load ≤ bearP (k, a, 1, s, 0))) m j)))) h := by
  intro m
  induction m with
  | zero =>
    intro j hj hl2
    exact k_X7_needs_90 (fun _ => k_X7_needs_119) (fun z => absurd (nI_lt (a := 99) (by omega) (by omega)) z)
  | succ m ih =>
    intro j hj hl2
    have hok : okP (k, a, 1, j, 0) := ⟨hk, ha, ⟨by show 1 ≤ 1; omega, by show 1 ≤ 40; omega⟩, by show j ≤ 99; omega, by show 0 ≤ 40; omega⟩
    have hbb := bearP_le hok
    refine k_X7_needs_90 (fun z => absurd z (nI_nlt (a := 99) (by omega) (by omega))) (fun _ => k_X7_needs_97 (t_bearsBy hok) (Or.inl rfl) (fun z => k_X7_needs_113 ?_) (fun z => ?_))
    · rw [nI_ltI (by omega) (by omega)] at z
      rw [firstFrom, if_neg (by rw [decide_eq_true_eq]; omega), nI_1]
      exact ih (j + 1) (by omega) (by omega)
    · rw [nI_ltI (by omega) (by omega)] at z
      rw [firstFrom, if_pos (by rw [decide_eq_true_eq]; omega)]
      exact k_X7_needs_110
theorem bearP_of {q : Pers} {s : Nat} : bearP (setP q 3 s) = bearP (q.1, q.2.1, 1, s, 0) := rfl
theorem c_needs {p : Int32} (hX : XS h x O T) : CQ mX7_needs (d + 10) [.ref x, .int p] h x O T (q_needs T.1 p) := by
  have hX0 := hX
  obtain ⟨hT, δ, L, R, hC⟩ := hX
  have hC0 := hC
  obtain ⟨x1, x2, x3, x4, x5, x6, x7, x8, x9, x10, x11, x12, x13⟩ := hC
  obtain ⟨o1, o2, o3, o4, o5, o6⟩ := hT.1
  have g := x1.1
  have f0 := x1.2.1
  have f3 := x1.2.2.2.2.1
  have W1 := x3.1
  have Wc := x3.2.1
  have Wp := x3.2.2.1
  have C := x3.2.2.2.1
  have Pl := x3.2.2.2.2.1
  have hw := x3.2.2.2.2.2.1
  have hm := x3.2.2.2.2.2.2.1
  have n8 := C.2.2.2.2.1
  have ok := C.2.2.2.2.2.2
  have cn := C.2.2.2.1
  have l8 := Pl.2.2.2.2.2.1
  have sz := Pl.2.2.2.2.1
  have hH := t_hasB (d := d + 9) (v := p) C
  unfold q_needs
  cases hp : hasB T.1.1.length p with
  | false =>
    rw [hp] at hH
    rw [if_neg (by decide)]
    exact cqR (k := 0) (by omega) hX0 (fun h1 r e => jm mi_X7_needs (Nat.le_of_ble_eq_true rfl) ⟨.int, rfl, rfl⟩ rfl (k_X7_needs_0 g f0 W1 Wc hH (Or.inl rfl) C.1 (fun z => absurd rfl z) (fun _ => k_X7_needs_14 r (Or.inl e) g)))
  | true =>
    rw [hp] at hH
    rw [if_pos rfl]
    obtain ⟨i, hi, rfl⟩ := hasB_nI hp
    rw [nn_I (by omega)]
    have hc := t_courseOf (d := d + 8) (x := i) Pl o1 n8 (by omega)
    cases hk : courseF T.1.2.1 i 0 with
    | none =>
      rw [hk] at hc
      exact cqR (k := 3) (by omega) hX0 (fun h1 r e => jm mi_X7_needs (Nat.le_of_ble_eq_true rfl) ⟨.int, rfl, rfl⟩ rfl (k_X7_needs_0 g f0 W1 Wc hH (Or.inl rfl) C.1 (fun _ => k_X7_needs_22 g f0 W1 Wp hc (Or.inl rfl) Pl.1 (fun z => absurd rfl z) (fun _ => k_X7_needs_39 r (Or.inl e) g)) (fun z => absurd z (by decide))))
    | some k =>
      rw [hk] at hc
      obtain ⟨hkl, -⟩ := courseF_lt hk
      have hok := pg_ok ok i
      exact cq0 hX0 (jm mi_X7_needs (Nat.le_of_ble_eq_true rfl) ⟨.int, rfl, rfl⟩ rfl (k_X7_needs_0 g f0 W1 Wc hH (Or.inl rfl) C.1 (fun _ => k_X7_needs_22 g f0 W1 Wp hc (Or.inl rfl) Pl.1 (fun _ => k_X7_needs_47 g f0 W1 Wp (t_loadAt C Pl o1 hkl) (Or.inl rfl) Pl.1 g f0 W1 Wc (t_fact (w := 0) C hi (by omega)) (Or.inl rfl) C.1 g f0 W1 Wc (t_fact (w := 1) C hi (by omega)) (Or.inl rfl) C.1 (l_needs (d := d) hok.1 hok.2.1 (mass_b ok l8 (k + 1)) 100 0 rfl (by omega))) (fun z => absurd z (nI_nneg1 (by omega)))) (fun z => absurd z (by decide))))
theorem c_nerves {p : Int32} (hX : XS h x O T) : CQ mX7_nerves (d + 10) [.ref x, .int p] h x O T (q_nerves T.1 p) := by
  have hX0 := hX
  obtain ⟨hT, δ, L, R, hC⟩ := hX
  have hC0 := hC
  obtain ⟨x1, x2, x3, x4, x5, x6, x7, x8, x9, x10, x11, x12, x13⟩ := hC
  obtain ⟨o1, o2, o3, o4, o5, o6⟩ := hT.1
  have g := x1.1
  have f0 := x1.2.1
  have f3 := x1.2.2.2.2.1
  have W1 := x3.1
  have Wc := x3.2.1
  have Wp := x3.2.2.1
  have C := x3.2.2.2.1
  have Pl := x3.2.2.2.2.1
  have hw := x3.2.2.2.2.2.1
  have hm := x3.2.2.2.2.2.2.1
  have n8 := C.2.2.2.2.1
  have ok := C.2.2.2.2.2.2
  have cn := C.2.2.2.1
  have l8 := Pl.2.2.2.2.2.1
  have sz := Pl.2.2.2.2.1
  have hH := t_hasB (d := d + 9) (v := p) C
  unfold q_nerves
  cases hp : hasB T.1.1.length p with
  | false =>
    rw [hp] at hH
    rw [if_neg (by decide)]
    exact cqR (k := 0) (by omega) hX0 (fun h1 r e => jm mi_X7_nerves (Nat.le_of_ble_eq_true rfl) ⟨.int, rfl, rfl⟩ rfl (k_X7_nerves_0 g f0 W1 Wc hH (Or.inl rfl) C.1 (fun z => absurd rfl z) (fun _ => k_X7_nerves_14 r (Or.inl e) g)))
  | true =>
    rw [hp] at hH
    rw [if_pos rfl]
    obtain ⟨i, hi, rfl⟩ := hasB_nI hp
    rw [nn_I (by omega)]
    have hc := t_courseOf (d := d + 8) (x := i) Pl o1 n8 (by omega)
    cases hk : courseF T.1.2.1 i 0 with
    | none =>
      rw [hk] at hc
      exact cqR (k := 3) (by omega) hX0 (fun h1 r e => jm mi_X7_nerves (Nat.le_of_ble_eq_true rfl) ⟨.int, rfl, rfl⟩ rfl (k_X7_nerves_0 g f0 W1 Wc hH (Or.inl rfl) C.1 (fun _ => k_X7_nerves_22 g f0 W1 Wp hc (Or.inl rfl) Pl.1 (fun z => absurd rfl z) (fun _ => k_X7_nerves_39 r (Or.inl e) g)) (fun z => absurd z (by decide))))
    | some k =>
      rw [hk] at hc
      obtain ⟨hkl, -⟩ := courseF_lt hk
      dsimp only
      have ht := tall_b (P := T.1.1) (L := T.1.2.1) ok l8 k
      have hm' : tallL T.1.1 (T.1.2.1.take k) * T.1.2.2.1 ≤ 48 * 9 := Nat.mul_le_mul ht o4
      have hB := t_mayBe (d := d + 8) (h := h) (k := 4) (v := nI (tallL T.1.1 (T.1.2.1.take k) * T.1.2.2.1 / 4)) (by omega)
      have eB : mayB 4 ((tallL T.1.1 (T.1.2.1.take k) * T.1.2.2.1 / 4 : Nat) : Int) = decide (tallL T.1.1 (T.1.2.1.take k) * T.1.2.2.1 / 4 ≤ 40) := by
        unfold mayB
        have : ((loT 4 : Nat) : Int) = 0 := rfl
        have : ((hiT 4 : Nat) : Int) = 40 := rfl
        exact decide_eq_decide.mpr (by omega)
      rw [nI_toInt (by omega), eB] at hB
      have ent : ∀ {v : Int32}, (bI (decide (tallL T.1.1 (T.1.2.1.take k) * T.1.2.2.1 / 4 ≤ 40)) = 0 → J mX7_nerves (d + 10) 81 [some (.ref x), some (.int (nI i)), some (.int (nI k)), some (.int (nI (tallL T.1.1 (T.1.2.1.take k) * T.1.2.2.1 / 4)))] [] h (some (.int v)) h) → (¬ bI (decide (tallL T.1.1 (T.1.2.1.take k) * T.1.2.2.1 / 4 ≤ 40)) = 0 → J mX7_nerves (d + 10) 77 [some (.ref x), some (.int (nI i)), some (.int (nI k)), some (.int (nI (tallL T.1.1 (T.1.2.1.take k) * T.1.2.2.1 / 4)))] [] h (some (.int v)) h) → CQ mX7_nerves (d + 10) [.ref x, .int (nI i)] h x O T (.inr v) := fun k1 k2 =>
        cq0 hX0 (jm mi_X7_nerves (Nat.le_of_ble_eq_true rfl) ⟨.int, rfl, rfl⟩ rfl (k_X7_nerves_0 g f0 W1 Wc hH (Or.inl rfl) C.1 (fun _ => k_X7_nerves_22 g f0 W1 Wp hc (Or.inl rfl) Pl.1 (fun _ => k_X7_nerves_47 g f0 W1 Wp (t_upAt C Pl o1 (by omega)) (Or.inl rfl) Pl.1 g f0 W1 (by rw [hw]; exact t_sway (by omega)) (Or.inl rfl) hB (Or.inl rfl) k1 k2) (fun z => absurd z (nI_nneg1 (by omega)))) (fun z => absurd z (by decide))))
      refine ent (fun z => ?_) (fun z => ?_)
      · rw [bI_0, decide_eq_false_iff_not] at z
        rw [if_neg z]; exact k_X7_nerves_81 k_X7_nerves_82
      · rw [bI_n0, decide_eq_true_eq] at z
        rw [if_pos z]; exact k_X7_nerves_77 k_X7_nerves_82
end QQ
