/-! masks, the least slack, the head -/
section MK
variable {d : Nat} {h : PH} {c f p o : Nat} {P : List Pers} {L : List Nat}
theorem t_isIn {x : Nat} (hP : PileS h p c o L) (hL : inP P L) (hPl : P.length ≤ 8) (hx : x < 2 ^ 31) : JMt mX2_isIn (some .boolean) (d + 2) [.ref p, .int (nI x)] h (some (.int (bI (courseF L x 0).isSome))) h := by
  have hb : ∀ k, courseF L x 0 = some k → k < 2 ^ 31 := fun k hk => by
    have h1 := hP.2.2.2.2.2.1
    unfold courseF at hk
    rw [Option.map_eq_some_iff] at hk
    obtain ⟨a, h2, h3⟩ := hk
    have := (List.findIdx?_eq_some_iff_getElem.mp h2).choose
    rw [List.length_drop] at this
    omega
  refine jm mi_X2_isIn (Nat.le_of_ble_eq_true rfl) ⟨.boolean, rfl, by cases (courseF L x 0).isSome <;> rfl⟩ rfl (k_X2_isIn_0 (t_courseOf hP hL hPl hx) (Or.inl rfl) hP.1 (fun q => ?_) (fun q => ?_))
  · rw [oI_neg hb] at q
    rw [q]
    exact k_X2_isIn_13 k_X2_isIn_14
  · rw [oI_neg hb] at q
    cases hc : courseF L x 0 with
    | none => exact absurd hc q
    | some k => exact k_X2_isIn_9 k_X2_isIn_14
/-- the head, or -1 -/
def headI (L : List Nat) : Int32 := if L.length = 0 then -1 else nI (L.getD (L.length - 1) 0)
theorem tX2_head (hP : PileS h p c o L) : JMt mX2_head (some .int) (d + 2) [.ref p] h (some (.int (headI L))) h := by
  have h1 := hP.2.2.2.2.2.1
  have h5 := hP.2.2.2.2.1
  refine jm mi_X2_head (Nat.le_of_ble_eq_true rfl) ⟨.int, rfl, rfl⟩ rfl (k_X2_head_0 hP.1 ?_ (Or.inl rfl))
  rw [h5]
  unfold headI
  by_cases hl : L.length = 0
  · rw [if_pos hl, hl]
    exact t_onCourseN hP (Or.inl (by decide))
  · rw [if_neg hl, show (1 : Int32) = nI 1 from rfl, pk_sub (by omega)]
    exact t_onCourse hP (by omega)
theorem orN_lt {g : Nat → Nat} {b : Nat} (hg : ∀ k, g k < 2 ^ b) : ∀ n, orN g n < 2 ^ b
  | 0 => Nat.two_pow_pos b
  | n + 1 => Nat.or_lt_two_pow (orN_lt hg n) (hg n)
theorem orN_bit {g : Nat → Nat} {x : Nat} : ∀ n, (orN g n).testBit x = true ↔ ∃ k, k < n ∧ (g k).testBit x = true
  | 0 => by simp [orN]
  | n + 1 => by
    unfold orN
    rw [Nat.testBit_or, Bool.or_eq_true, orN_bit n]
    constructor
    · rintro (⟨k, h1, h2⟩ | h2)
      · exact ⟨k, by omega, h2⟩
      · exact ⟨n, by omega, h2⟩
    · rintro ⟨k, h1, h2⟩
      rcases Nat.lt_or_ge k n with z | z
      · exact Or.inl ⟨k, z, h2⟩
      · have : k = n := by omega
        subst this
        exact Or.inr h2
theorem l_bits (hP : PileS h p c o L) (hL : inP P L) (hPl : P.length ≤ 8) : ∀ n j, L.length - j = n → j ≤ L.length → J mX2_bits (d + 1) 4 [some (.ref p), some (.int (nI (orN (fun k => if true then 2 ^ L.getD k 0 else 0) j))), some (.int (nI j))] [] h (some (.int (nI (maskL (fun _ => true) L)))) h := by
  obtain ⟨p1, p2, p3, p4, p5, p6, p7⟩ := hP
  intro n
  induction n with
  | zero =>
    intro j hj hl
    have : j = L.length := by omega
    subst this
    exact k_X2_bits_4 p1 (fun _ => k_X2_bits_32) (fun q => absurd (by rw [p5]; exact nI_le (by omega) (by omega)) q)
  | succ n ih =>
    intro j hj hl
    have hjl : j < L.length := by omega
    have hxl := hL _ (getD_mem hjl)
    refine k_X2_bits_4 p1 (fun q => absurd q (by rw [p5]; exact nI_ge hjl (by omega))) (fun _ => k_X2_bits_12 p1 p3 (t_pick (k := j) p4 (by omega) (by omega)) (Or.inl rfl) (by rw [p7 j hjl]; exact t_bit (by omega)) (Or.inl rfl) ?_)
    rw [nI_1, fa_or]
    exact ih (j + 1) (by omega) (by omega)
theorem t_bits (hP : PileS h p c o L) (hL : inP P L) (hPl : P.length ≤ 8) : JMt mX2_bits (some .int) (d + 1) [.ref p] h (some (.int (nI (maskL (fun _ => true) L)))) h :=
  jm mi_X2_bits (Nat.le_of_ble_eq_true rfl) ⟨.int, rfl, rfl⟩ rfl (k_X2_bits_0 (l_bits hP hL hPl _ 0 rfl (Nat.zero_le _)))
theorem l_crushedBits (hC : CrowdS h c f P) (hP : PileS h p c o L) (hL : inP P L) : ∀ n j, L.length - j = n → j ≤ L.length → J mX2_crushedBits (d + 4) 4 [some (.ref p), some (.int (nI (orN (fun k => if crushB P L k then 2 ^ L.getD k 0 else 0) j))), some (.int (nI j))] [] h (some (.int (nI (maskL (crushB P L) L)))) h := by
  have hP' := hP
  have hPl := hC.2.2.2.2.1
  obtain ⟨p1, p2, p3, p4, p5, p6, p7⟩ := hP
  intro n
  induction n with
  | zero =>
    intro j hj hl
    have : j = L.length := by omega
    subst this
    exact k_X2_crushedBits_4 p1 (fun _ => k_X2_crushedBits_40) (fun q => absurd (by rw [p5]; exact nI_le (by omega) (by omega)) q)
  | succ n ih =>
    intro j hj hl
    have hjl : j < L.length := by omega
    have hxl := hL _ (getD_mem hjl)
    refine k_X2_crushedBits_4 p1 (fun q => absurd q (by rw [p5]; exact nI_ge hjl (by omega))) (fun _ => k_X2_crushedBits_12 (t_isCrushed hC hP' hL hjl) (Or.inl rfl) p1 (fun q => ?_) (fun q => ?_))
    · have q' := bI_0.mp q
      refine k_X2_crushedBits_34 ?_
      have := ih (j + 1) (by omega) (by omega)
      rw [orN, q', if_neg (by decide), Nat.or_zero] at this
      rw [nI_1]
      exact this
    · have q' := bI_n0.mp q
      refine k_X2_crushedBits_20 p1 p3 (t_pick (k := j) p4 (by omega) (by omega)) (Or.inl rfl) (by rw [p7 j hjl]; exact t_bit (by omega)) (Or.inl rfl) (k_X2_crushedBits_34 ?_)
      have := ih (j + 1) (by omega) (by omega)
      rw [orN, q', if_pos rfl] at this
      rw [nI_1, fa_or]
      exact this
theorem t_crushedBits (hC : CrowdS h c f P) (hP : PileS h p c o L) (hL : inP P L) : JMt mX2_crushedBits (some .int) (d + 4) [.ref p] h (some (.int (nI (maskL (crushB P L) L)))) h :=
  jm mi_X2_crushedBits (Nat.le_of_ble_eq_true rfl) ⟨.int, rfl, rfl⟩ rfl (k_X2_crushedBits_0 (l_crushedBits hC hP hL _ 0 rfl (Nat.zero_le _)))
theorem l_shakenBits {w : Nat} (hC : CrowdS h c f P) (hP : PileS h p c o L) (hL : inP P L) (hw : w ≤ 9) : ∀ n j, L.length - j = n → j ≤ L.length → J mX2_shakenBits (d + 4) 4 [some (.ref p), some (.int (nI w)), some (.int (nI (orN (fun k => if shakeB P w L k then 2 ^ L.getD k 0 else 0) j))), some (.int (nI j))] [] h (some (.int (nI (maskL (shakeB P w L) L)))) h := by
  have hP' := hP
  have hPl := hC.2.2.2.2.1
  obtain ⟨p1, p2, p3, p4, p5, p6, p7⟩ := hP
  intro n
  induction n with
  | zero =>
    intro j hj hl
    have : j = L.length := by omega
    subst this
    exact k_X2_shakenBits_4 p1 (fun _ => k_X2_shakenBits_41) (fun q => absurd (by rw [p5]; exact nI_le (by omega) (by omega)) q)
  | succ n ih =>
    intro j hj hl
    have hjl : j < L.length := by omega
    have hxl := hL _ (getD_mem hjl)
    refine k_X2_shakenBits_4 p1 (fun q => absurd q (by rw [p5]; exact nI_ge hjl (by omega))) (fun _ => k_X2_shakenBits_12 (t_isShaken (d := d + 1) hC hP' hL hjl hw) (Or.inl rfl) p1 (fun q => ?_) (fun q => ?_))
    · have q' := bI_0.mp q
      refine k_X2_shakenBits_35 ?_
      have := ih (j + 1) (by omega) (by omega)
      rw [orN, q', if_neg (by decide), Nat.or_zero] at this
      rw [nI_1]
      exact this
    · have q' := bI_n0.mp q
      refine k_X2_shakenBits_21 p1 p3 (t_pick (k := j) p4 (by omega) (by omega)) (Or.inl rfl) (by rw [p7 j hjl]; exact t_bit (by omega)) (Or.inl rfl) (k_X2_shakenBits_35 ?_)
      have := ih (j + 1) (by omega) (by omega)
      rw [orN, q', if_pos rfl] at this
      rw [nI_1, fa_or]
      exact this
theorem t_shakenBits {w : Nat} (hC : CrowdS h c f P) (hP : PileS h p c o L) (hL : inP P L) (hw : w ≤ 9) : JMt mX2_shakenBits (some .int) (d + 4) [.ref p, .int (nI w)] h (some (.int (nI (maskL (shakeB P w L) L)))) h :=
  jm mi_X2_shakenBits (Nat.le_of_ble_eq_true rfl) ⟨.int, rfl, rfl⟩ rfl (k_X2_shakenBits_0 (l_shakenBits hC hP hL hw _ 0 rfl (Nat.zero_le _)))
theorem l_leastCourse (hC : CrowdS h c f P) (hP : PileS h p c o L) (hL : inP P L) : ∀ n j b, L.length - j = n → b < L.length → j ≤ L.length → J mX2_leastCourse (d + 3) 4 [some (.ref p), some (.int (nI b)), some (.int (nI j))] [] h (some (.int (nI (leastFrom (slackZ P L) n j b)))) h := by
  have hP' := hP
  obtain ⟨p1, p2, p3, p4, p5, p6, p7⟩ := hP
  intro n
  induction n with
  | zero =>
    intro j b hj hb h1
    exact k_X2_leastCourse_4 p1 (fun _ => k_X2_leastCourse_33) (fun q => absurd (by rw [p5]; exact nI_le (by omega) (by omega)) q)
  | succ n ih =>
    intro j b hj hb h1
    have hjl : j < L.length := by omega
    have b1 := slackZ_b (P := P) (L := L) hC.2.2.2.2.2.2 p6 j
    have b2 := slackZ_b (P := P) (L := L) hC.2.2.2.2.2.2 p6 b
    refine k_X2_leastCourse_4 p1 (fun q => absurd q (by rw [p5]; exact nI_ge hjl (by omega))) (fun _ => k_X2_leastCourse_12 (t_slackAt hC hP' hL hjl) (Or.inl rfl) p1 (t_slackAt hC hP' hL hb) (Or.inl rfl) p1 (fun q => ?_) (fun q => ?_))
    · rw [sI_le (by omega) (by omega) (by omega) (by omega)] at q
      refine k_X2_leastCourse_27 ?_
      rw [nI_1, leastFrom, if_neg (by omega)]
      exact ih (j + 1) b (by omega) hb (by omega)
    · rw [sI_le (by omega) (by omega) (by omega) (by omega)] at q
      refine k_X2_leastCourse_25 (k_X2_leastCourse_27 ?_)
      rw [nI_1, leastFrom, if_pos (by omega)]
      exact ih (j + 1) j (by omega) hjl (by omega)
theorem t_leastCourse (hC : CrowdS h c f P) (hP : PileS h p c o L) (hL : inP P L) (h0 : 0 < L.length) : JMt mX2_leastCourse (some .int) (d + 3) [.ref p] h (some (.int (nI (leastK P L)))) h :=
  jm mi_X2_leastCourse (Nat.le_of_ble_eq_true rfl) ⟨.int, rfl, rfl⟩ rfl (k_X2_leastCourse_0 (l_leastCourse hC hP hL _ 1 0 rfl h0 h0))
theorem t_leastSlack (hC : CrowdS h c f P) (hP : PileS h p c o L) (hL : inP P L) (h0 : 0 < L.length) : JMt mX2_leastSlack (some .int) (d + 4) [.ref p] h (some (.int (sI (slackZ P L (leastK P L))))) h :=
  jm mi_X2_leastSlack (Nat.le_of_ble_eq_true rfl) ⟨.int, rfl, rfl⟩ rfl (k_X2_leastSlack_0 (t_leastCourse hC hP hL h0) (Or.inl rfl) hP.1 (t_slackAt (d := d + 1) hC hP hL (leastK_lt h0)) (Or.inl rfl) hP.1)
end MK
