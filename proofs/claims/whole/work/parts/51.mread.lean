/-! the reference: what is read of people and of a pile -/
theorem half_I {x : Nat} (hx : x < 2 ^ 31) : nI x / (2 : Int32) = nI (x / 2) := by rw [show (2 : Int32) = nI 2 from rfl, pk_div hx (by omega) (by omega)]
theorem zI {z : Int} (h1 : -1000 ≤ z) (h2 : z ≤ 1000) : (0 : Int32) ≤ sI z ↔ 0 ≤ z := by rw [show (0 : Int32) = sI 0 from rfl, sI_le (by omega) (by omega) (by omega) (by omega)]
section MR
variable {d : Nat} {h : PH} {m : Nat} {σ : WS}
theorem u_massOf {p : Nat} (hM : ModH h m) (hB : MB h m σ) (hp : p < σ.1.length) : JMt mX8_massOf (some .int) d [.ref m, .int (nI p)] h (some (.int (nI (massP (pg σ.1 p))))) h := by
  have n8 := hB.n8
  obtain ⟨o1, o2, ⟨o3, o3'⟩, o4, o5⟩ := pg_ok hB.ok p
  have e0 : hI h (m + 17) (nI p).toNatClampNeg = nI (pg σ.1 p).1 := by rw [nI_clamp (by omega)]; exact hB.kd hp
  have e1 : hI h (m + 18) (nI p).toNatClampNeg = nI (pg σ.1 p).2.1 := by rw [nI_clamp (by omega)]; exact hB.a hp
  have e2 : hI h (m + 19) (nI p).toNatClampNeg = nI (pg σ.1 p).2.2.1 := by rw [nI_clamp (by omega)]; exact hB.we hp
  have vi : vp_in (nI p) 8 := vp_in_nI (by omega) (by omega)
  refine jm mi_X8_massOf (Nat.le_of_ble_eq_true rfl) ⟨.int, rfl, rfl⟩ rfl (k_X8_massOf_0 hM.g hM.r14 hM.g14 vi (fun z => ?_) (fun z => ?_) (fun z => ?_) (fun z => ?_) (fun z => ?_) (fun z => ?_))
  · rw [e0, nI_toInt (by omega)] at z
    exact ji (by rw [e2]; exact congrArg nI (by unfold massP; (repeat' split) <;> omega)) (k_X8_massOf_79 hM.g hM.r16 hM.g16 vi)
  · rw [e0] at z
    have z : (pg σ.1 p).1 = 1 := (nI_eq (by omega) (by omega)).mp z
    exact ji (by rw [e2, e1, nI_add]; exact congrArg nI (by unfold massP; (repeat' split) <;> omega)) (k_X8_massOf_40 hM.g hM.r16 hM.g16 vi hM.r15 hM.g15 vi)
  · rw [e0] at z
    have z : (pg σ.1 p).1 = 2 := (nI_eq (by omega) (by omega)).mp z
    exact ji (by rw [e2]; exact congrArg nI (by unfold massP; (repeat' split) <;> omega)) (k_X8_massOf_79 hM.g hM.r16 hM.g16 vi)
  · rw [e0] at z
    have z : (pg σ.1 p).1 = 3 := (nI_eq (by omega) (by omega)).mp z
    exact ji (by rw [e2, e1, nI_add, half_I (by omega)]; exact congrArg nI (by unfold massP; (repeat' split) <;> omega)) (k_X8_massOf_54 hM.g hM.r16 hM.g16 vi hM.r15 hM.g15 vi (by decide))
  · rw [e0] at z
    have z : (pg σ.1 p).1 = 4 := (nI_eq (by omega) (by omega)).mp z
    exact ji (by rw [e2]; exact congrArg nI (by unfold massP; (repeat' split) <;> omega)) (k_X8_massOf_79 hM.g hM.r16 hM.g16 vi)
  · rw [e0] at z
    have z : (pg σ.1 p).1 = 5 := (nI_eq (by omega) (by omega)).mp z
    exact ji (by rw [e2, half_I (by omega)]; exact congrArg nI (by unfold massP; (repeat' split) <;> omega)) (k_X8_massOf_70 hM.g hM.r16 hM.g16 vi (by decide))
theorem u_bears {p : Nat} (hM : ModH h m) (hB : MB h m σ) (hp : p < σ.1.length) : JMt mX8_bears (some .int) d [.ref m, .int (nI p)] h (some (.int (nI (bearP (pg σ.1 p))))) h := by
  have n8 := hB.n8
  obtain ⟨o1, o2, ⟨o3, o3'⟩, o4, o5⟩ := pg_ok hB.ok p
  have e0 : hI h (m + 17) (nI p).toNatClampNeg = nI (pg σ.1 p).1 := by rw [nI_clamp (by omega)]; exact hB.kd hp
  have e1 : hI h (m + 18) (nI p).toNatClampNeg = nI (pg σ.1 p).2.1 := by rw [nI_clamp (by omega)]; exact hB.a hp
  have e2 : hI h (m + 20) (nI p).toNatClampNeg = nI (pg σ.1 p).2.2.2.1 := by rw [nI_clamp (by omega)]; exact hB.sr hp
  have vi : vp_in (nI p) 8 := vp_in_nI (by omega) (by omega)
  have tl : (pg σ.1 p).1 = 1 ∨ (pg σ.1 p).1 = 3 → J mX8_bears d 40 [some (.ref m), some (.int (nI p))] [] h (some (.int (nI (bearP (pg σ.1 p))))) h := fun z => by
    refine k_X8_bears_40 hM.g hM.r17 hM.g17 vi hM.r15 hM.g15 vi (fun y => ?_) (fun y => ?_)
    · rw [e1, e2, nI_leI (by omega) (by omega)] at y
      exact k_X8_bears_71 (ji (show (0 : Int32) = nI (bearP (pg σ.1 p)) from congrArg nI (a₁ := 0) (by unfold bearP; (repeat' split) <;> omega)) k_X8_bears_72)
    · rw [e1, e2, nI_leI (by omega) (by omega)] at y
      exact k_X8_bears_55 hM.g hM.r17 hM.g17 vi hM.r15 hM.g15 vi (ji (by rw [e1, e2, pk_sub (by omega)]; exact congrArg nI (by unfold bearP; (repeat' split) <;> omega)) k_X8_bears_72)
  refine jm mi_X8_bears (Nat.le_of_ble_eq_true rfl) ⟨.int, rfl, rfl⟩ rfl (k_X8_bears_0 hM.g hM.r14 hM.g14 vi (fun z => ?_) (fun z => ?_) (fun z => ?_) (fun z => ?_) (fun z => ?_) (fun z => ?_))
  · rw [e0, nI_toInt (by omega)] at z
    exact ji (by rw [e2]; exact congrArg nI (by unfold bearP; (repeat' split) <;> omega)) (k_X8_bears_112 hM.g hM.r17 hM.g17 vi)
  · rw [e0] at z
    exact tl (Or.inl ((nI_eq (by omega) (by omega)).mp z))
  · rw [e0] at z
    have z : (pg σ.1 p).1 = 2 := (nI_eq (by omega) (by omega)).mp z
    exact ji (by rw [e2, e1, nI_add]; exact congrArg nI (by unfold bearP; (repeat' split) <;> omega)) (k_X8_bears_73 hM.g hM.r17 hM.g17 vi hM.r15 hM.g15 vi)
  · rw [e0] at z
    exact tl (Or.inr ((nI_eq (by omega) (by omega)).mp z))
  · rw [e0] at z
    have z : (pg σ.1 p).1 = 4 := (nI_eq (by omega) (by omega)).mp z
    exact ji (by rw [e2, e1, nI_add, show (2 : Int32) = nI 2 from rfl, pk_mul]; exact congrArg nI (by unfold bearP; (repeat' split) <;> omega)) (k_X8_bears_87 hM.g hM.r17 hM.g17 vi hM.r15 hM.g15 vi)
  · rw [e0] at z
    have z : (pg σ.1 p).1 = 5 := (nI_eq (by omega) (by omega)).mp z
    exact ji (by rw [e2, half_I (by omega)]; exact congrArg nI (by unfold bearP; (repeat' split) <;> omega)) (k_X8_bears_103 hM.g hM.r17 hM.g17 vi (by decide))
theorem u_tallness {p : Nat} (hM : ModH h m) (hB : MB h m σ) (hp : p < σ.1.length) : JMt mX8_tallness (some .int) d [.ref m, .int (nI p)] h (some (.int (nI (tallP (pg σ.1 p))))) h := by
  have n8 := hB.n8
  obtain ⟨o1, o2, ⟨o3, o3'⟩, o4, o5⟩ := pg_ok hB.ok p
  have e0 : hI h (m + 17) (nI p).toNatClampNeg = nI (pg σ.1 p).1 := by rw [nI_clamp (by omega)]; exact hB.kd hp
  have e1 : hI h (m + 18) (nI p).toNatClampNeg = nI (pg σ.1 p).2.1 := by rw [nI_clamp (by omega)]; exact hB.a hp
  have e3 : (3 : Int32) + nI (pg σ.1 p).2.1 / (3 : Int32) = nI (3 + (pg σ.1 p).2.1 / 3) := by rw [show (3 : Int32) = nI 3 from rfl, pk_div (by omega) (by omega) (by omega), nI_add]
  have vi : vp_in (nI p) 8 := vp_in_nI (by omega) (by omega)
  refine jm mi_X8_tallness (Nat.le_of_ble_eq_true rfl) ⟨.int, rfl, rfl⟩ rfl (k_X8_tallness_0 hM.g hM.r14 hM.g14 vi (fun z => ?_) (fun z => ?_) (fun z => ?_) (fun z => ?_) (fun z => ?_) (fun z => ?_))
  · rw [e0, nI_toInt (by omega)] at z
    exact ji (show nI 2 = _ from congrArg nI (by unfold tallP; (repeat' split) <;> omega)) k_X8_tallness_55
  · rw [e0] at z
    have z : (pg σ.1 p).1 = 1 := (nI_eq (by omega) (by omega)).mp z
    exact ji (show nI 3 = _ from congrArg nI (by unfold tallP; (repeat' split) <;> omega)) k_X8_tallness_40
  · rw [e0] at z
    have z : (pg σ.1 p).1 = 2 := (nI_eq (by omega) (by omega)).mp z
    exact ji (show nI 2 = _ from congrArg nI (by unfold tallP; (repeat' split) <;> omega)) k_X8_tallness_55
  · rw [e0] at z
    have z : (pg σ.1 p).1 = 3 := (nI_eq (by omega) (by omega)).mp z
    exact ji (by rw [e1, e3]; exact congrArg nI (by unfold tallP; (repeat' split) <;> omega)) (k_X8_tallness_42 hM.g hM.r15 hM.g15 vi (by decide))
  · rw [e0] at z
    have z : (pg σ.1 p).1 = 4 := (nI_eq (by omega) (by omega)).mp z
    exact ji (show nI 2 = _ from congrArg nI (by unfold tallP; (repeat' split) <;> omega)) k_X8_tallness_55
  · rw [e0] at z
    have z : (pg σ.1 p).1 = 5 := (nI_eq (by omega) (by omega)).mp z
    exact ji (show nI 1 = _ from congrArg nI (by unfold tallP; (repeat' split) <;> omega)) k_X8_tallness_53
theorem v_courseOf {x : Nat} (hM : ModH h m) (hB : MB h m σ) (hL : inP σ.1 σ.2.1) (hx : x < 2 ^ 31) : ∀ n j, σ.2.1.length - j = n → j ≤ σ.2.1.length → J mX8_courseOf d 2 [some (.ref m), some (.int (nI x)), some (.int (nI j))] [] h (some (.int (oI (courseF σ.2.1 x j)))) h := by
  have l8 := hB.l8
  have n8 := hB.n8
  intro n
  induction n with
  | zero =>
    intro j hj hl
    rw [courseF_end (by omega)]
    exact k_X8_courseOf_2 hM.g (fun _ => k_X8_courseOf_28) (fun q => absurd (by rw [hB.sz]; exact nI_le (by omega) (by omega)) q)
  | succ n ih =>
    intro j hj hl
    have hjl : j < σ.2.1.length := by omega
    have hxl := hL _ (getD_mem hjl)
    refine k_X8_courseOf_2 hM.g (fun q => absurd q (by rw [hB.sz]; exact nI_ge hjl (by omega))) (fun _ => k_X8_courseOf_10 hM.g hM.r19 hM.g19 (vp_in_nI (by omega) (by omega)) (fun q => ?_) (fun q => ?_))
    · rw [nI_clamp (by omega), hB.sk hjl] at q
      refine k_X8_courseOf_22 ?_
      rw [nI_1, courseF_miss hjl (fun e => q (by rw [e]))]
      exact ih (j + 1) (by omega) (by omega)
    · rw [nI_clamp (by omega), hB.sk hjl, nI_eq (by omega) hx] at q
      rw [courseF_hit hjl q]
      exact k_X8_courseOf_20
theorem u_courseOf {x : Nat} (hM : ModH h m) (hB : MB h m σ) (hL : inP σ.1 σ.2.1) (hx : x < 2 ^ 31) : JMt mX8_courseOf (some .int) d [.ref m, .int (nI x)] h (some (.int (oI (courseF σ.2.1 x 0)))) h :=
  jm mi_X8_courseOf (Nat.le_of_ble_eq_true rfl) ⟨.int, rfl, rfl⟩ rfl (k_X8_courseOf_0 (v_courseOf hM hB hL hx _ 0 rfl (Nat.zero_le _)))
theorem crs_b {L : List Nat} {x : Nat} (hl : L.length ≤ 8) : ∀ k, courseF L x 0 = some k → k < 2 ^ 31 := fun k hk => by
  have := (courseF_lt hk).1
  omega
theorem u_isIn {x : Nat} (hM : ModH h m) (hB : MB h m σ) (hL : inP σ.1 σ.2.1) (hx : x < 2 ^ 31) : JMt mX8_isIn (some .boolean) (d + 1) [.ref m, .int (nI x)] h (some (.int (bI (courseF σ.2.1 x 0).isSome))) h := by
  have l8 := hB.l8
  refine jm mi_X8_isIn (Nat.le_of_ble_eq_true rfl) rB rfl (k_X8_isIn_0 (u_courseOf hM hB hL hx) (Or.inl rfl) hM.g (fun q => ?_) (fun q => ?_))
  · rw [oI_neg (crs_b l8)] at q
    rw [q]
    exact k_X8_isIn_13 k_X8_isIn_14
  · rw [oI_neg (crs_b l8)] at q
    cases hc : courseF σ.2.1 x 0 with
    | none => exact absurd hc q
    | some k => exact k_X8_isIn_9 k_X8_isIn_14
theorem u_fondOf {x y : Nat} (hM : ModH h m) (hB : MB h m σ) (hx : x < σ.1.length) (hy : y < σ.1.length) : JMt mX8_fondOf (some .int) d [.ref m, .int (nI x), .int (nI y)] h (some (.int (nI (fondP σ.1 x y)))) h := by
  have n8 := hB.n8
  obtain ⟨-, o2, -⟩ := pg_ok hB.ok x
  obtain ⟨-, o2', -⟩ := pg_ok hB.ok y
  have e1 : hI h (m + 18) (nI x).toNatClampNeg = nI (pg σ.1 x).2.1 := by rw [nI_clamp (by omega)]; exact hB.a hx
  have e2 : hI h (m + 18) (nI y).toNatClampNeg = nI (pg σ.1 y).2.1 := by rw [nI_clamp (by omega)]; exact hB.a hy
  have vx : vp_in (nI x) 8 := vp_in_nI (by omega) (by omega)
  have vy : vp_in (nI y) 8 := vp_in_nI (by omega) (by omega)
  refine jm mi_X8_fondOf (Nat.le_of_ble_eq_true rfl) ⟨.int, rfl, rfl⟩ rfl (k_X8_fondOf_0 hM.g hM.r15 hM.g15 vx vy (fun q => ?_) (fun q => ?_))
  · rw [e1, e2, nI_leI (by omega) (by omega)] at q
    exact k_X8_fondOf_31 hM.g hM.r15 hM.g15 vy vx (ji (by rw [e1, e2, pk_sub (by omega), show (10 : Int32) = nI 10 from rfl, pk_sub (by omega)]; exact congrArg nI (by unfold fondP; omega)) k_X8_fondOf_44)
  · rw [e1, e2, nI_leI (by omega) (by omega)] at q
    exact k_X8_fondOf_15 hM.g hM.r15 hM.g15 vx vy (ji (by rw [e1, e2, pk_sub (by omega), show (10 : Int32) = nI 10 from rfl, pk_sub (by omega)]; exact congrArg nI (by unfold fondP; omega)) k_X8_fondOf_44)
theorem v_loadAt {y : Int32} (hM : ModH h m) (hB : MB h m σ) (hL : inP σ.1 σ.2.1) : ∀ n j s, σ.2.1.length - j = n → j ≤ σ.2.1.length → J mX8_loadAt (d + 1) 6 [some (.ref m), some (.int y), some (.int (nI s)), some (.int (nI j))] [] h (some (.int (nI (s + massL σ.1 (σ.2.1.drop j))))) h := by
  have l8 := hB.l8
  intro n
  induction n with
  | zero =>
    intro j s hj hl
    rw [List.drop_eq_nil_of_le (by omega)]
    exact k_X8_loadAt_6 hM.g (fun _ => k_X8_loadAt_33) (fun q => absurd (by rw [hB.sz]; exact nI_le (by omega) (by omega)) q)
  | succ n ih =>
    intro j s hj hl
    have hjl : j < σ.2.1.length := by omega
    have hxl := hL _ (getD_mem hjl)
    refine k_X8_loadAt_6 hM.g (fun q => absurd q (by rw [hB.sz]; exact nI_ge hjl (by omega))) (fun _ => k_X8_loadAt_14 hM.g hM.r19 hM.g19 (vp_in_nI (by omega) (by omega)) (by rw [nI_clamp (by omega), hB.sk hjl]; exact u_massOf hM hB hxl) (Or.inl rfl) ?_)
    rw [nI_1, nI_add, drop_cons hjl, massL_cons, ← Nat.add_assoc]
    exact ih (j + 1) _ (by omega) (by omega)
theorem u_loadAt {k : Nat} (hM : ModH h m) (hB : MB h m σ) (hL : inP σ.1 σ.2.1) (hk : k < σ.2.1.length) : JMt mX8_loadAt (some .int) (d + 1) [.ref m, .int (nI k)] h (some (.int (nI (massL σ.1 (σ.2.1.drop (k + 1)))))) h := by
  refine jm mi_X8_loadAt (Nat.le_of_ble_eq_true rfl) ⟨.int, rfl, rfl⟩ rfl (k_X8_loadAt_0 ?_)
  rw [show (1 : Int32) = nI 1 from rfl, nI_add]
  have := v_loadAt (d := d) (y := nI k) hM hB hL _ (k + 1) 0 rfl (by omega)
  rw [Nat.zero_add] at this
  exact this
theorem u_loadAll (hM : ModH h m) (hB : MB h m σ) (hL : inP σ.1 σ.2.1) : JMt mX8_loadAt (some .int) (d + 1) [.ref m, .int (-1)] h (some (.int (nI (massL σ.1 σ.2.1)))) h := by
  refine jm mi_X8_loadAt (Nat.le_of_ble_eq_true rfl) ⟨.int, rfl, rfl⟩ rfl (k_X8_loadAt_0 ?_)
  rw [nI_neg1]
  have := v_loadAt (d := d) (y := -1) hM hB hL _ 0 0 rfl (by omega)
  rw [Nat.zero_add, List.drop_zero] at this
  exact this
theorem v_upAt {k : Nat} (hM : ModH h m) (hB : MB h m σ) (hL : inP σ.1 σ.2.1) (hk : k ≤ σ.2.1.length) : ∀ n j, k - j = n → j ≤ k → J mX8_upAt (d + 1) 4 [some (.ref m), some (.int (nI k)), some (.int (nI (tallL σ.1 (σ.2.1.take j)))), some (.int (nI j))] [] h (some (.int (nI (tallL σ.1 (σ.2.1.take k))))) h := by
  have l8 := hB.l8
  intro n
  induction n with
  | zero =>
    intro j hj hl
    have : j = k := by omega
    subst this
    exact k_X8_upAt_4 (fun _ => k_X8_upAt_28) (fun q => absurd (nI_le (Nat.le_refl _) (by omega)) q)
  | succ n ih =>
    intro j hj hl
    have hjl : j < σ.2.1.length := by omega
    have hxl := hL _ (getD_mem hjl)
    refine k_X8_upAt_4 (fun q => absurd q (nI_ge (by omega) (by omega))) (fun _ => k_X8_upAt_9 hM.g hM.r19 hM.g19 (vp_in_nI (by omega) (by omega)) (by rw [nI_clamp (by omega), hB.sk hjl]; exact u_tallness hM hB hxl) (Or.inl rfl) ?_)
    have e : nI (tallL σ.1 (σ.2.1.take j)) + nI (tallP (pg σ.1 (σ.2.1.getD j 0))) = nI (tallL σ.1 (σ.2.1.take (j + 1))) := by rw [nI_add, take_succ hjl, tallL_snoc]
    rw [nI_1, e]
    exact ih (j + 1) (by omega) (by omega)
theorem u_upAt {k : Nat} (hM : ModH h m) (hB : MB h m σ) (hL : inP σ.1 σ.2.1) (hk : k ≤ σ.2.1.length) : JMt mX8_upAt (some .int) (d + 1) [.ref m, .int (nI k)] h (some (.int (nI (tallL σ.1 (σ.2.1.take k))))) h :=
  jm mi_X8_upAt (Nat.le_of_ble_eq_true rfl) ⟨.int, rfl, rfl⟩ rfl (k_X8_upAt_0 (v_upAt hM hB hL hk _ 0 rfl (Nat.zero_le _)))
theorem u_heightNow (hM : ModH h m) (hB : MB h m σ) (hL : inP σ.1 σ.2.1) : JMt mX8_heightNow (some .int) (d + 2) [.ref m] h (some (.int (nI (tallL σ.1 σ.2.1)))) h := by
  have := u_upAt (d := d) hM hB hL (Nat.le_refl _)
  rw [List.take_length] at this
  exact jm mi_X8_heightNow (Nat.le_of_ble_eq_true rfl) ⟨.int, rfl, rfl⟩ rfl (k_X8_heightNow_0 hM.g (by rw [hB.sz]; exact this) (Or.inl rfl))
theorem u_slackAt {k : Nat} (hM : ModH h m) (hB : MB h m σ) (hL : inP σ.1 σ.2.1) (hk : k < σ.2.1.length) : JMt mX8_slackAt (some .int) (d + 2) [.ref m, .int (nI k)] h (some (.int (sI (slackZ σ.1 σ.2.1 k)))) h := by
  have l8 := hB.l8
  have := k_X8_slackAt_0 (d := d + 1) (a1 := nI k) hM.g hM.r19 hM.g19 (vp_in_nI (by omega) (by omega)) (by rw [nI_clamp (by omega), hB.sk hk]; exact u_bears hM hB (hL _ (getD_mem hk))) (Or.inl rfl) (u_loadAt hM hB hL hk) (Or.inl rfl) hM.g
  rw [nI_nsub] at this
  exact jm mi_X8_slackAt (Nat.le_of_ble_eq_true rfl) ⟨.int, rfl, rfl⟩ rfl this
theorem u_crushedAt {k : Nat} (hM : ModH h m) (hB : MB h m σ) (hL : inP σ.1 σ.2.1) (hk : k < σ.2.1.length) : JMt mX8_crushedAt (some .boolean) (d + 3) [.ref m, .int (nI k)] h (some (.int (bI (crushB σ.1 σ.2.1 k)))) h := by
  have hb := slackZ_b (P := σ.1) (L := σ.2.1) hB.ok hB.l8 k
  refine jm mi_X8_crushedAt (Nat.le_of_ble_eq_true rfl) rB rfl (k_X8_crushedAt_0 (u_slackAt hM hB hL hk) (Or.inl rfl) hM.g (fun q => ?_) (fun q => ?_))
  · rw [zI (by omega) (by omega)] at q
    have : crushB σ.1 σ.2.1 k = false := by
      rw [← Bool.not_eq_true, crush_iff]; omega
    rw [this]
    exact k_X8_crushedAt_12 k_X8_crushedAt_13
  · rw [zI (by omega) (by omega)] at q
    rw [crush_iff.mpr (by omega)]
    exact k_X8_crushedAt_8 k_X8_crushedAt_13
theorem u_shakesAt {k : Nat} (hM : ModH h m) (hB : MB h m σ) (hL : inP σ.1 σ.2.1) (hk : k < σ.2.1.length) : JMt mX8_shakesAt (some .boolean) (d + 2) [.ref m, .int (nI k)] h (some (.int (bI (shakeB σ.1 σ.2.2.1 σ.2.1 k)))) h := by
  have l8 := hB.l8
  have n8 := hB.n8
  have ht := tall_b (P := σ.1) (L := σ.2.1) hB.ok hB.l8 k
  have hm : tallL σ.1 (σ.2.1.take k) * σ.2.2.1 ≤ 48 * 10 := Nat.mul_le_mul ht hB.w10
  have hn := (pg_ok hB.ok (σ.2.1.getD k 0)).2.2.2.2
  have hxl := hL _ (getD_mem hk)
  have e1 : hI h (m + 22) (nI k).toNatClampNeg = nI (σ.2.1.getD k 0) := by rw [nI_clamp (by omega)]; exact hB.sk hk
  have e2 : hI h (m + 21) (hI h (m + 22) (nI k).toNatClampNeg).toNatClampNeg = nI (pg σ.1 (σ.2.1.getD k 0)).2.2.2.2 := by rw [e1, nI_clamp (by omega)]; exact hB.ne hxl
  have e3 : nI (tallL σ.1 (σ.2.1.take k)) * hI h m 9 / (4 : Int32) = nI (tallL σ.1 (σ.2.1.take k) * σ.2.2.1 / 4) := by rw [hB.wi, pk_mul, show (4 : Int32) = nI 4 from rfl, pk_div (by omega) (by omega) (by omega)]
  refine jm mi_X8_shakesAt (Nat.le_of_ble_eq_true rfl) rB rfl (k_X8_shakesAt_0 (u_upAt hM hB hL (by omega)) (Or.inl rfl) hM.g hM.g (by decide) hM.r18 hM.r19 hM.g19 (vp_in_nI (by omega) (by omega)) hM.g18 (by rw [e1]; exact vp_in_nI (by omega) (by omega)) (fun q => ?_) (fun q => ?_))
  · rw [e2, e3, nI_leI (by omega) (by omega)] at q
    have : shakeB σ.1 σ.2.2.1 σ.2.1 k = false := decide_eq_false (by omega)
    rw [this]
    exact k_X8_shakesAt_30 k_X8_shakesAt_31
  · rw [e2, e3, nI_leI (by omega) (by omega)] at q
    have : shakeB σ.1 σ.2.2.1 σ.2.1 k = true := decide_eq_true (by omega)
    rw [this]
    exact k_X8_shakesAt_26 k_X8_shakesAt_31
theorem v_weakAt (hM : ModH h m) (hB : MB h m σ) (hL : inP σ.1 σ.2.1) : ∀ n j, σ.2.1.length - j = n → j ≤ σ.2.1.length → J mX8_weakAt (d + 4) 2 [some (.ref m), some (.int (nI j))] [] h (some (.int (oI (firstFrom (fun k => crushB σ.1 σ.2.1 k || shakeB σ.1 σ.2.2.1 σ.2.1 k) n j)))) h := by
  have l8 := hB.l8
  intro n
  induction n with
  | zero =>
    intro j hj hl
    exact k_X8_weakAt_2 hM.g (fun _ => k_X8_weakAt_34) (fun q => absurd (by rw [hB.sz]; exact nI_le (by omega) (by omega)) q)
  | succ n ih =>
    intro j hj hl
    have hjl : j < σ.2.1.length := by omega
    refine k_X8_weakAt_2 hM.g (fun q => absurd q (by rw [hB.sz]; exact nI_ge hjl (by omega))) (fun _ => k_X8_weakAt_10 (u_crushedAt hM hB hL hjl) (Or.inl rfl) hM.g (fun q => ?_) (fun q => k_X8_weakAt_18 (u_shakesAt hM hB hL hjl) (Or.inl rfl) hM.g (fun q2 => ?_) (fun q2 => ?_)))
    · unfold firstFrom
      rw [if_pos (by simp [bI_n0.mp q])]
      exact k_X8_weakAt_26
    · unfold firstFrom
      rw [if_neg (by simp [bI_0.mp q, bI_0.mp q2])]
      refine k_X8_weakAt_28 ?_
      rw [nI_1]
      exact ih (j + 1) (by omega) (by omega)
    · unfold firstFrom
      rw [if_pos (by simp [bI_n0.mp q2])]
      exact k_X8_weakAt_26
theorem u_weakAt (hM : ModH h m) (hB : MB h m σ) (hL : inP σ.1 σ.2.1) : JMt mX8_weakAt (some .int) (d + 4) [.ref m] h (some (.int (oI (weakF σ.1 σ.2.2.1 σ.2.1)))) h :=
  jm mi_X8_weakAt (Nat.le_of_ble_eq_true rfl) ⟨.int, rfl, rfl⟩ rfl (k_X8_weakAt_0 (v_weakAt hM hB hL _ 0 rfl (Nat.zero_le _)))
theorem u_isStanding (hM : ModH h m) (hB : MB h m σ) (hL : inP σ.1 σ.2.1) : JMt mX8_isStanding (some .boolean) (d + 5) [.ref m] h (some (.int (bI (firmB σ.1 σ.2.2.1 σ.2.1)))) h := by
  refine jm mi_X8_isStanding (Nat.le_of_ble_eq_true rfl) rB rfl (k_X8_isStanding_0 (u_weakAt hM hB hL) (Or.inl rfl) hM.g (fun q => ?_) (fun q => ?_))
  · rw [oI_weak hB.l8, Bool.not_eq_true] at q
    rw [q]
    exact k_X8_isStanding_12 k_X8_isStanding_13
  · rw [oI_weak hB.l8] at q
    rw [q]
    exact k_X8_isStanding_8 k_X8_isStanding_13
theorem v_leastAt (hM : ModH h m) (hB : MB h m σ) (hL : inP σ.1 σ.2.1) (h0 : 0 < σ.2.1.length) : ∀ n j b, σ.2.1.length - j = n → j ≤ σ.2.1.length → b < σ.2.1.length → J mX8_leastAt (d + 3) 4 [some (.ref m), some (.int (nI b)), some (.int (nI j))] [] h (some (.int (nI (leastFrom (slackZ σ.1 σ.2.1) n j b)))) h := by
  have l8 := hB.l8
  have hb := fun k => slackZ_b (P := σ.1) (L := σ.2.1) hB.ok hB.l8 k
  intro n
  induction n with
  | zero =>
    intro j b hj hl hbl
    exact k_X8_leastAt_4 hM.g (fun _ => k_X8_leastAt_37) (fun q => absurd (by rw [hB.sz]; exact nI_le (by omega) (by omega)) q)
  | succ n ih =>
    intro j b hj hl hbl
    have hjl : j < σ.2.1.length := by omega
    have b1 := hb j
    have b2 := hb b
    refine k_X8_leastAt_4 hM.g (fun q => absurd q (by rw [hB.sz]; exact nI_ge hjl (by omega))) (fun _ => k_X8_leastAt_12 (u_slackAt hM hB hL hjl) (Or.inl rfl) hM.g (u_slackAt hM hB hL hbl) (Or.inl rfl) hM.g (fun q => ?_) (fun q => ?_))
    · rw [sI_le (by omega) (by omega) (by omega) (by omega)] at q
      unfold leastFrom
      rw [if_neg (by omega)]
      refine k_X8_leastAt_29 (k_X8_leastAt_30 ?_)
      rw [nI_1]
      exact ih (j + 1) b (by omega) (by omega) hbl
    · rw [sI_le (by omega) (by omega) (by omega) (by omega)] at q
      unfold leastFrom
      rw [if_pos (by omega)]
      refine k_X8_leastAt_25 (k_X8_leastAt_30 ?_)
      rw [nI_1]
      exact ih (j + 1) j (by omega) (by omega) hjl
theorem u_leastAt (hM : ModH h m) (hB : MB h m σ) (hL : inP σ.1 σ.2.1) (h0 : 0 < σ.2.1.length) : JMt mX8_leastAt (some .int) (d + 3) [.ref m] h (some (.int (nI (leastK σ.1 σ.2.1)))) h :=
  jm mi_X8_leastAt (Nat.le_of_ble_eq_true rfl) ⟨.int, rfl, rfl⟩ rfl (k_X8_leastAt_0 (v_leastAt hM hB hL h0 _ 1 0 rfl (by omega) h0))
theorem shlN : ∀ n, n ≤ 8 → ((((1 : Int32) <<< (nI n &&& 31)) - (1 : Int32)).toInt64).toInt = ((2 ^ n : Nat) : Int) - 1 := by decide +kernel
theorem u_isSet {s : Int32} (hM : ModH h m) (hB : MB h m σ) : JMt mX8_isSet (some .boolean) (d + 1) [.ref m, .int s] h (some (.int (bI (inB s 0 ((2 ^ σ.1.length : Nat) - 1))))) h :=
  jm mi_X8_isSet (Nat.le_of_ble_eq_true rfl) rB rfl (k_X8_isSet_0 hM.g (by rw [hB.n]; exact t_inI rfl (shlN _ hB.n8)) (Or.inl rfl))
theorem u_leastMost (hM : ModH h m) (hB : MB h m σ) : JMt mX8_leastMost (some .int) d [.ref m] h (some (.int (nI (if σ.2.1.length ≤ 1 then 1 else σ.2.1.length)))) h := by
  have l8 := hB.l8
  refine jm mi_X8_leastMost (Nat.le_of_ble_eq_true rfl) ⟨.int, rfl, rfl⟩ rfl (k_X8_leastMost_0 hM.g (fun q => ?_) (fun q => ?_))
  · rw [hB.sz, show (1 : Int32) = nI 1 from rfl, nI_leI (by omega) (by omega)] at q
    rw [if_pos q]
    exact k_X8_leastMost_15 k_X8_leastMost_16
  · rw [hB.sz, show (1 : Int32) = nI 1 from rfl, nI_leI (by omega) (by omega)] at q
    rw [if_neg q]
    exact k_X8_leastMost_8 hM.g (ji hB.sz k_X8_leastMost_16)
def popB : Nat → Nat → Nat → Nat
  | 0, a, _ => a
  | f + 1, a, s => if s = 0 then a else popB f (a + 1) (s &&& (s - 1))
theorem popB_ok : ∀ s, s < 256 → popB 9 0 s = popN s := by decide +kernel
theorem and_pred : ∀ s, s < 256 → s ≠ 0 → nI s &&& (nI s - (1 : Int32)) = nI (s &&& (s - 1)) ∧ s &&& (s - 1) < s := by decide +kernel
theorem v_bits {a0 : Int32} : ∀ f a s, s < 256 → (∀ g, popB (f + g) a s = popB f a s) → J mX8_bits d 4 [some (.int a0), some (.int (nI a)), some (.int (nI s))] [] h (some (.int (nI (popB f a s)))) h := by
  intro f
  induction f with
  | zero =>
    intro a s hs hf
    refine k_X8_bits_4 (fun _ => k_X8_bits_20) (fun q => ?_)
    have hs0 : s ≠ 0 := fun e => q (by rw [e]; rfl)
    exact absurd (hf 257) (by
      have hm : ∀ f a s, a ≤ popB f a s := fun f => by
        induction f with
        | zero => intro a s; exact Nat.le_refl _
        | succ f ih => intro a s; unfold popB; split; exact Nat.le_refl _; exact Nat.le_trans (Nat.le_succ a) (ih _ _)
      have : popB (0 + 257) a s = popB 256 (a + 1) (s &&& (s - 1)) := by rw [show 0 + 257 = 256 + 1 from rfl]; show (if s = 0 then a else _) = _; rw [if_neg hs0]
      rw [this]
      have h1 := hm 256 (a + 1) (s &&& (s - 1))
      show ¬ popB 256 (a + 1) (s &&& (s - 1)) = a
      omega)
  | succ f ih =>
    intro a s hs hf
    refine k_X8_bits_4 (fun q => ?_) (fun q => ?_)
    · have q : s = 0 := (nI_eq (by omega) (by omega)).mp q
      unfold popB
      rw [if_pos q]
      exact k_X8_bits_20
    · have hs0 : s ≠ 0 := fun e => q (by rw [e]; rfl)
      obtain ⟨e1, e2⟩ := and_pred s hs hs0
      refine k_X8_bits_8 ?_
      rw [e1, nI_1]
      unfold popB
      rw [if_neg hs0]
      refine ih (a + 1) _ (by omega) (fun g => ?_)
      have := hf g
      rw [show f + 1 + g = (f + g) + 1 by omega] at this
      unfold popB at this
      rw [if_neg hs0, if_neg hs0] at this
      exact this
theorem popB_st : ∀ s, s < 256 → ∀ a g, popB (9 + g) a s = popB 9 a s := by
  have key : ∀ f, ∀ a s, s < 256 → popN s < f → ∀ g, popB (f + g) a s = popB f a s := by
    have pp : ∀ s, s < 256 → s ≠ 0 → popN (s &&& (s - 1)) < popN s ∧ s &&& (s - 1) < 256 := by decide +kernel
    intro f
    induction f with
    | zero => intro a s hs hp; omega
    | succ f ih =>
      intro a s hs hp g
      rw [show f + 1 + g = (f + g) + 1 by omega]
      show (if s = 0 then a else _) = if s = 0 then a else _
      by_cases hs0 : s = 0
      · rw [if_pos hs0, if_pos hs0]
      · rw [if_neg hs0, if_neg hs0]
        obtain ⟨p1, p2⟩ := pp s hs hs0
        exact ih (a + 1) _ p2 (by omega) g
  intro s hs a g
  exact key 9 a s hs (by have := popN_le s; omega) g
theorem u_bits {s : Nat} (hs : s < 256) : JMt mX8_bits (some .int) d [.int (nI s)] h (some (.int (nI (popN s)))) h := by
  have := v_bits (d := d) (h := h) (a0 := nI s) 9 0 s hs (popB_st s hs 0)
  rw [popB_ok s hs] at this
  exact jm mi_X8_bits (Nat.le_of_ble_eq_true rfl) ⟨.int, rfl, rfl⟩ rfl (k_X8_bits_0 this)
end MR
