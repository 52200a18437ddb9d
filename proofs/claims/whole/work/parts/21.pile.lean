/-! the crowd and a pile of the class: what is read -/
/-- the crowd at c, its facts at f, holds the people P -/
def CrowdS (h : PH) (c f : Nat) (P : List Pers) : Prop := hG h c = (0, 2) ∧ hR h c 0 = some f ∧ hG h f = (20, 64) ∧ hI h c 1 = nI P.length ∧ P.length ≤ 8 ∧ (∀ p, p < P.length → ∀ w, w < 8 → hI h f (8 * p + w) = nI (factP (pg P p) w)) ∧ ∀ q ∈ P, okP q
/-- the pile at p, of the crowd c, its order at o, holds the people L, the foot first -/
def PileS (h : PH) (p c o : Nat) (L : List Nat) : Prop := hG h p = (2, 3) ∧ hR h p 0 = some c ∧ hR h p 1 = some o ∧ hG h o = (20, 8) ∧ hI h p 2 = nI L.length ∧ L.length ≤ 8 ∧ ∀ k, k < L.length → hI h o k = nI (L.getD k 0)
def inP (P : List Pers) (L : List Nat) : Prop := ∀ x ∈ L, x < P.length
section PL
variable {d : Nat} {h : PH} {c f p o : Nat} {P : List Pers} {L : List Nat}
theorem t_has {x : Int32} (hC : CrowdS h c f P) : JMt mX0_has (some .boolean) d [.ref c, .int x] h (some (.int (if ¬ x < 0 ∧ x < nI P.length then 1 else 0))) h := by
  obtain ⟨c1, c2, c3, c4, c5, c6, c7⟩ := hC
  by_cases h1 : x < 0
  · rw [if_neg (fun q => q.1 h1)]
    exact jm mi_X0_has (Nat.le_of_ble_eq_true rfl) ⟨.boolean, rfl, rfl⟩ rfl (k_X0_has_0 (fun _ => k_X0_has_16 k_X0_has_17) (fun q => absurd h1 q))
  · by_cases h2 : x < nI P.length
    · rw [if_pos ⟨h1, h2⟩]
      exact jm mi_X0_has (Nat.le_of_ble_eq_true rfl) ⟨.boolean, rfl, rfl⟩ rfl (k_X0_has_0 (fun q => absurd q h1) (fun _ => k_X0_has_4 c1 (fun q => absurd q (by rw [c4]; exact (fa_of_lt h2).2.1)) (fun _ => k_X0_has_12 k_X0_has_17)))
    · rw [if_neg (fun q => h2 q.2)]
      exact jm mi_X0_has (Nat.le_of_ble_eq_true rfl) ⟨.boolean, rfl, rfl⟩ rfl (k_X0_has_0 (fun q => absurd q h1) (fun _ => k_X0_has_4 c1 (fun _ => k_X0_has_16 k_X0_has_17) (fun q => absurd (by rw [c4]; exact fa_of_nlt h2) q)))
theorem t_isFull (hC : CrowdS h c f P) : JMt mX0_isFull (some .boolean) d [.ref c] h (some (.int (if P.length < 8 then 0 else 1))) h := by
  obtain ⟨c1, c2, c3, c4, c5, c6, c7⟩ := hC
  by_cases h1 : P.length < 8
  · rw [if_pos h1]
    exact jm mi_X0_isFull (Nat.le_of_ble_eq_true rfl) ⟨.boolean, rfl, rfl⟩ rfl (k_X0_isFull_0 c1 (fun _ => k_X0_isFull_13 k_X0_isFull_14) (fun q => absurd (by rw [c4]; exact nI_lt (a := P.length) (b := 8) h1 (by omega)) q))
  · rw [if_neg h1]
    exact jm mi_X0_isFull (Nat.le_of_ble_eq_true rfl) ⟨.boolean, rfl, rfl⟩ rfl (k_X0_isFull_0 c1 (fun q => absurd (by rw [c4] at q; exact q) (nI_nlt (a := P.length) (b := 8) (by omega) (by omega))) (fun _ => k_X0_isFull_9 k_X0_isFull_14))
theorem t_fact {x w : Nat} (hC : CrowdS h c f P) (hx : x < P.length) (hw : w < 8) : JMt mX0_fact (some .int) d [.ref c, .int (nI x), .int (nI w)] h (some (.int (nI (factP (pg P x) w)))) h := by
  obtain ⟨c1, c2, c3, c4, c5, c6, c7⟩ := hC
  have e1 : nI x * (8 : Int32) + nI w = nI (8 * x + w) := by rw [show (8 : Int32) = nI 8 from rfl, pk_mul, nI_add, Nat.mul_comm]
  refine jm mi_X0_fact (Nat.le_of_ble_eq_true rfl) ⟨.int, rfl, rfl⟩ rfl (k_X0_fact_0 (fun q => absurd q (nI_lt0 (by omega))) (fun _ => ?_))
  rw [e1]
  refine k_X0_fact_11 c1 (fun q => absurd q (by rw [c4]; exact nI_ge hx (by omega))) (fun _ => k_X0_fact_19 (fun q => absurd q (nI_lt0 (by omega))) (fun _ => k_X0_fact_23 (fun q => absurd q (nI_ge (a := w) (b := 8) hw (by omega))) (fun _ => k_X0_fact_29 (k_X0_fact_34 (fun q => absurd q (by decide)) (fun _ => k_X0_fact_41 (fun q => absurd q (nI_lt0 (by omega))) (fun _ => k_X0_fact_45 c1 c2 c3 (fun q => absurd q (nI_ge (a := 8 * x + w) (b := 64) (by omega) (by omega))) (fun _ => k_X0_fact_54 c1 c2 c3 (vp_in_nI (by omega) (by omega)) ?_)))))))
  rw [nI_clamp (by omega), c6 x hx w hw]
  exact k_X0_fact_64
theorem t_onCourse {k : Nat} (hP : PileS h p c o L) (hk : k < L.length) : JMt mX2_onCourse (some .int) (d + 1) [.ref p, .int (nI k)] h (some (.int (nI (L.getD k 0)))) h := by
  obtain ⟨p1, p2, p3, p4, p5, p6, p7⟩ := hP
  refine jm mi_X2_onCourse (Nat.le_of_ble_eq_true rfl) ⟨.int, rfl, rfl⟩ rfl (k_X2_onCourse_0 (fun q => absurd q (nI_lt0 (by omega))) (fun _ => k_X2_onCourse_4 p1 (fun q => absurd q (by rw [p5]; exact nI_ge hk (by omega))) (fun _ => k_X2_onCourse_12 p1 p3 (t_pick (k := k) p4 (by omega) (by omega)) (Or.inl rfl) ?_)))
  rw [p7 k hk]
  exact k_X2_onCourse_24
theorem t_onCourseN {x : Int32} (hP : PileS h p c o L) (hx : x < 0 ∨ nI L.length ≤ x) : JMt mX2_onCourse (some .int) d [.ref p, .int x] h (some (.int (-1))) h := by
  obtain ⟨p1, p2, p3, p4, p5, p6, p7⟩ := hP
  by_cases h1 : x < 0
  · exact jm mi_X2_onCourse (Nat.le_of_ble_eq_true rfl) ⟨.int, rfl, rfl⟩ rfl (k_X2_onCourse_0 (fun _ => k_X2_onCourse_23 k_X2_onCourse_24) (fun q => absurd h1 q))
  · exact jm mi_X2_onCourse (Nat.le_of_ble_eq_true rfl) ⟨.int, rfl, rfl⟩ rfl (k_X2_onCourse_0 (fun q => absurd q h1) (fun _ => k_X2_onCourse_4 p1 (fun _ => k_X2_onCourse_23 k_X2_onCourse_24) (fun q => absurd (by rw [p5]; exact hx.resolve_left h1) q)))
/-- the course of x from j on, or none -/
def courseF (L : List Nat) (x : Nat) (j : Nat) : Option Nat := ((L.drop j).findIdx? (· == x)).map (· + j)
def oI (r : Option Nat) : Int32 := match r with
  | some k => nI k
  | none => -1
theorem courseF_end {x j : Nat} (h : L.length ≤ j) : courseF L x j = none := by
  unfold courseF
  rw [List.drop_eq_nil_of_le h]
  rfl
theorem courseF_hit {x j : Nat} (h : j < L.length) (e : L.getD j 0 = x) : courseF L x j = some j := by
  unfold courseF
  rw [drop_cons h, List.findIdx?_cons]
  simp only [e, beq_self_eq_true, if_true, Option.map_some, Nat.zero_add]
theorem courseF_miss {x j : Nat} (h : j < L.length) (e : L.getD j 0 ≠ x) : courseF L x j = courseF L x (j + 1) := by
  unfold courseF
  rw [drop_cons h, List.findIdx?_cons]
  have : (L.getD j 0 == x) = false := by simpa using e
  rw [this]
  simp only [Bool.false_eq_true, if_false, Option.map_map]
  congr 1
  funext a
  simp only [Function.comp]
  omega
theorem l_courseOf {x : Nat} (hP : PileS h p c o L) (hL : inP P L) (hPl : P.length ≤ 8) (hx : x < 2 ^ 31) : ∀ n j, L.length - j = n → j ≤ L.length → J mX2_courseOf (d + 1) 2 [some (.ref p), some (.int (nI x)), some (.int (nI j))] [] h (some (.int (oI (courseF L x j)))) h := by
  obtain ⟨p1, p2, p3, p4, p5, p6, p7⟩ := hP
  intro n
  induction n with
  | zero =>
    intro j hj hl
    rw [courseF_end (by omega)]
    exact k_X2_courseOf_2 p1 (fun _ => k_X2_courseOf_30) (fun q => absurd (by rw [p5]; exact nI_le (by omega) (by omega)) q)
  | succ n ih =>
    intro j hj hl
    have hjl : j < L.length := by omega
    have hxl := hL _ (getD_mem hjl)
    refine k_X2_courseOf_2 p1 (fun q => absurd q (by rw [p5]; exact nI_ge hjl (by omega))) (fun _ => k_X2_courseOf_10 p1 p3 (t_pick (k := j) p4 (by omega) (by omega)) (Or.inl rfl) (fun q => ?_) (fun q => ?_))
    · rw [p7 j hjl] at q
      refine k_X2_courseOf_24 ?_
      rw [nI_1, courseF_miss hjl (fun e => q (by rw [e]))]
      exact ih (j + 1) (by omega) (by omega)
    · rw [p7 j hjl, nI_eq (by omega) hx] at q
      rw [courseF_hit hjl q]
      exact k_X2_courseOf_22
theorem t_courseOf {x : Nat} (hP : PileS h p c o L) (hL : inP P L) (hPl : P.length ≤ 8) (hx : x < 2 ^ 31) : JMt mX2_courseOf (some .int) (d + 1) [.ref p, .int (nI x)] h (some (.int (oI (courseF L x 0)))) h :=
  jm mi_X2_courseOf (Nat.le_of_ble_eq_true rfl) ⟨.int, rfl, rfl⟩ rfl (k_X2_courseOf_0 (l_courseOf hP hL hPl hx _ 0 rfl (Nat.zero_le _)))
/-- loads: the mass of those from j on -/
theorem l_loadAt {y : Int32} (hC : CrowdS h c f P) (hP : PileS h p c o L) (hL : inP P L) : ∀ n j s, L.length - j = n → j ≤ L.length → J mX2_loadAt (d + 1) 6 [some (.ref p), some (.int y), some (.int (nI s)), some (.int (nI j))] [] h (some (.int (nI (s + massL P (L.drop j))))) h := by
  have hP' := hP
  obtain ⟨p1, p2, p3, p4, p5, p6, p7⟩ := hP
  intro n
  induction n with
  | zero =>
    intro j s hj hl
    rw [List.drop_eq_nil_of_le (by omega)]
    exact k_X2_loadAt_6 p1 (fun _ => k_X2_loadAt_39) (fun q => absurd (by rw [p5]; exact nI_le (by omega) (by omega)) q)
  | succ n ih =>
    intro j s hj hl
    have hjl : j < L.length := by omega
    have hxl := hL _ (getD_mem hjl)
    refine k_X2_loadAt_6 p1 (fun q => absurd q (by rw [p5]; exact nI_ge hjl (by omega))) (fun _ => k_X2_loadAt_14 p1 p2 p3 (t_pick (k := j) p4 (by omega) (by omega)) (Or.inl rfl) (by rw [p7 j hjl]; exact t_fact (w := 5) hC hxl (by omega)) (Or.inl rfl) hC.1 ?_)
    rw [nI_1, nI_add, drop_cons hjl, massL_cons, ← Nat.add_assoc]
    exact ih (j + 1) _ (by omega) (by omega)
theorem t_loadAt {k : Nat} (hC : CrowdS h c f P) (hP : PileS h p c o L) (hL : inP P L) (hk : k < L.length) : JMt mX2_loadAt (some .int) (d + 1) [.ref p, .int (nI k)] h (some (.int (nI (massL P (L.drop (k + 1)))))) h := by
  refine jm mi_X2_loadAt (Nat.le_of_ble_eq_true rfl) ⟨.int, rfl, rfl⟩ rfl (k_X2_loadAt_0 ?_)
  rw [show (1 : Int32) = nI 1 from rfl, nI_add]
  have := l_loadAt (d := d) (y := nI k) hC hP hL _ (k + 1) 0 rfl (by omega)
  rw [Nat.zero_add] at this
  exact this
theorem t_loadAll (hC : CrowdS h c f P) (hP : PileS h p c o L) (hL : inP P L) : JMt mX2_loadAt (some .int) (d + 1) [.ref p, .int (-1)] h (some (.int (nI (massL P L)))) h := by
  refine jm mi_X2_loadAt (Nat.le_of_ble_eq_true rfl) ⟨.int, rfl, rfl⟩ rfl (k_X2_loadAt_0 ?_)
  rw [nI_neg1]
  have := l_loadAt (d := d) (y := -1) hC hP hL _ 0 0 rfl (by omega)
  rw [Nat.zero_add, List.drop_zero] at this
  exact this
/-- how high: those below k -/
theorem l_upAt {k : Nat} (hC : CrowdS h c f P) (hP : PileS h p c o L) (hL : inP P L) (hk : k ≤ L.length) : ∀ n j, k - j = n → j ≤ k → J mX2_upAt (d + 1) 4 [some (.ref p), some (.int (nI k)), some (.int (nI (tallL P (L.take j)))), some (.int (nI j))] [] h (some (.int (nI (tallL P (L.take k))))) h := by
  have hP' := hP
  obtain ⟨p1, p2, p3, p4, p5, p6, p7⟩ := hP
  intro n
  induction n with
  | zero =>
    intro j hj hl
    have : j = k := by omega
    subst this
    exact k_X2_upAt_4 (fun _ => k_X2_upAt_43) (fun q => absurd (nI_le (Nat.le_refl _) (by omega)) q)
  | succ n ih =>
    intro j hj hl
    have hjl : j < L.length := by omega
    have hxl := hL _ (getD_mem hjl)
    refine k_X2_upAt_4 (fun q => absurd q (nI_ge (by omega) (by omega))) (fun _ => k_X2_upAt_9 p1 (fun q => absurd q (by rw [p5]; exact nI_ge hjl (by omega))) (fun _ => k_X2_upAt_17 p1 p2 p3 (t_pick (k := j) p4 (by omega) (by omega)) (Or.inl rfl) (by rw [p7 j hjl]; exact t_fact (w := 7) hC hxl (by omega)) (Or.inl rfl) hC.1 ?_))
    have e : nI (tallL P (L.take j)) + nI (factP (pg P (L.getD j 0)) 7) = nI (tallL P (L.take (j + 1))) := by rw [nI_add, take_succ hjl, tallL_snoc]; rfl
    rw [nI_1, e]
    exact ih (j + 1) (by omega) (by omega)
theorem t_upAt {k : Nat} (hC : CrowdS h c f P) (hP : PileS h p c o L) (hL : inP P L) (hk : k ≤ L.length) : JMt mX2_upAt (some .int) (d + 1) [.ref p, .int (nI k)] h (some (.int (nI (tallL P (L.take k))))) h :=
  jm mi_X2_upAt (Nat.le_of_ble_eq_true rfl) ⟨.int, rfl, rfl⟩ rfl (k_X2_upAt_0 (l_upAt hC hP hL hk _ 0 rfl (Nat.zero_le _)))
theorem t_tallnessOfAll (hC : CrowdS h c f P) (hP : PileS h p c o L) (hL : inP P L) : JMt mX2_tallnessOfAll (some .int) (d + 2) [.ref p] h (some (.int (nI (tallL P L)))) h := by
  have := t_upAt (d := d) hC hP hL (Nat.le_refl _)
  rw [List.take_length] at this
  exact jm mi_X2_tallnessOfAll (Nat.le_of_ble_eq_true rfl) ⟨.int, rfl, rfl⟩ rfl (k_X2_tallnessOfAll_0 hP.1 (by rw [hP.2.2.2.2.1]; exact this) (Or.inl rfl))
end PL
