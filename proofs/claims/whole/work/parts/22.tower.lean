/-! what is reckoned of a tower: slack, who is weak, gale, masks -/
def slackZ (P : List Pers) (L : List Nat) (k : Nat) : Int := (bearP (pg P (L.getD k 0)) : Int) - (massL P (L.drop (k + 1)) : Int)
def crushB (P : List Pers) (L : List Nat) (k : Nat) : Bool := decide (bearP (pg P (L.getD k 0)) < massL P (L.drop (k + 1)))
def shakeB (P : List Pers) (w : Nat) (L : List Nat) (k : Nat) : Bool := decide ((pg P (L.getD k 0)).2.2.2.2 < tallL P (L.take k) * w / 4)
/-- the first of n numbers from j on -/
def firstFrom (f : Nat → Bool) : Nat → Nat → Option Nat
  | 0, _ => none
  | n + 1, j => if f j then some j else firstFrom f n (j + 1)
def weakF (P : List Pers) (w : Nat) (L : List Nat) : Option Nat := firstFrom (fun k => crushB P L k || shakeB P w L k) L.length 0
def firmB (P : List Pers) (w : Nat) (L : List Nat) : Bool := (weakF P w L).isNone
/-- the last of n numbers -/
def lastBelow (f : Nat → Bool) : Nat → Option Nat
  | 0 => none
  | n + 1 => if f n then some n else lastBelow f n
def galeF (P : List Pers) (L : List Nat) : Option Nat := lastBelow (fun w => firmB P w L) 10
def orN (g : Nat → Nat) : Nat → Nat
  | 0 => 0
  | n + 1 => orN g n ||| g n
def maskL (f : Nat → Bool) (L : List Nat) : Nat := orN (fun k => if f k then 2 ^ L.getD k 0 else 0) L.length
/-- the first place of the least of n numbers from j on, b the best before -/
def leastFrom (s : Nat → Int) : Nat → Nat → Nat → Nat
  | 0, _, b => b
  | n + 1, j, b => leastFrom s n (j + 1) (if s j < s b then j else b)
def leastK (P : List Pers) (L : List Nat) : Nat := leastFrom (slackZ P L) (L.length - 1) 1 0
theorem leastFrom_lt {s : Nat → Int} : ∀ n j b m, b < m → j + n ≤ m → leastFrom s n j b < m
  | 0, _, b, m, hb, _ => hb
  | n + 1, j, b, m, hb, hj => leastFrom_lt n (j + 1) _ m (by split <;> omega) (by omega)
theorem leastK_lt {P : List Pers} {L : List Nat} (h : 0 < L.length) : leastK P L < L.length := leastFrom_lt _ _ _ _ h (by omega)
theorem slackZ_b {P : List Pers} {L : List Nat} (hP : ∀ q ∈ P, okP q) (hL : L.length ≤ 8) (k : Nat) : -400 ≤ slackZ P L k ∧ slackZ P L k ≤ 216 := by
  have h1 := bearP_le (pg_ok hP (L.getD k 0))
  have h2 := massL_le hP (L.drop (k + 1))
  have h3 : (L.drop (k + 1)).length ≤ 8 := by rw [List.length_drop]; omega
  unfold slackZ
  omega
theorem tall_b {P : List Pers} {L : List Nat} (hP : ∀ q ∈ P, okP q) (hL : L.length ≤ 8) (k : Nat) : tallL P (L.take k) ≤ 48 := by
  have h2 := tallL_le hP (L.take k)
  have h3 : (L.take k).length ≤ 8 := by rw [List.length_take]; omega
  omega
theorem mass_b {P : List Pers} {L : List Nat} (hP : ∀ q ∈ P, okP q) (hL : L.length ≤ 8) (k : Nat) : massL P (L.drop k) ≤ 392 := by
  have h2 := massL_le hP (L.drop k)
  have h3 : (L.drop k).length ≤ 8 := by rw [List.length_drop]; omega
  omega
theorem crush_iff {P : List Pers} {L : List Nat} {k : Nat} : crushB P L k = true ↔ slackZ P L k < 0 := by
  unfold crushB slackZ
  rw [decide_eq_true_eq]
  omega
/-- a truth as an int -/
def bI (b : Bool) : Int32 := if b then 1 else 0
theorem bI_0 {b : Bool} : bI b = 0 ↔ b = false := by cases b <;> decide
theorem bI_n0 {b : Bool} : ¬ bI b = 0 ↔ b = true := by cases b <;> decide
theorem oI_neg {r : Option Nat} (h : ∀ k, r = some k → k < 2 ^ 31) : oI r = -1 ↔ r = none := by
  cases r with
  | none => exact ⟨fun _ => rfl, fun _ => rfl⟩
  | some k => exact ⟨fun e => absurd e (nI_nneg1 (h k rfl)), fun e => by cases e⟩
theorem firstFrom_lt {f : Nat → Bool} : ∀ n j k, firstFrom f n j = some k → j ≤ k ∧ k < j + n ∧ f k = true ∧ ∀ i, j ≤ i → i < k → f i = false
  | 0, j, k, h => by cases h
  | n + 1, j, k, h => by
    unfold firstFrom at h
    by_cases hj : f j = true
    · rw [if_pos hj] at h
      cases h
      exact ⟨Nat.le_refl _, by omega, hj, fun i h1 h2 => by omega⟩
    · rw [if_neg hj] at h
      obtain ⟨h1, h2, h3, h4⟩ := firstFrom_lt n (j + 1) k h
      refine ⟨by omega, by omega, h3, fun i hi1 hi2 => ?_⟩
      by_cases e : i = j
      · subst e; simpa using hj
      · exact h4 i (by omega) hi2
theorem firstFrom_none {f : Nat → Bool} : ∀ n j, firstFrom f n j = none ↔ ∀ i, j ≤ i → i < j + n → f i = false
  | 0, j => ⟨fun _ i h1 h2 => by omega, fun _ => rfl⟩
  | n + 1, j => by
    unfold firstFrom
    by_cases hj : f j = true
    · rw [if_pos hj]
      refine ⟨fun h => (by cases h), fun h => ?_⟩
      rw [h j (Nat.le_refl _) (by omega)] at hj
      cases hj
    · rw [if_neg hj, firstFrom_none n (j + 1)]
      refine ⟨fun h i h1 h2 => ?_, fun h i h1 h2 => h i (by omega) (by omega)⟩
      by_cases e : i = j
      · subst e; simpa using hj
      · exact h i (by omega) (by omega)
theorem weakF_lt {P : List Pers} {w k : Nat} {L : List Nat} (h : weakF P w L = some k) : k < L.length := by
  have := (firstFrom_lt _ _ _ h).2.1
  omega
theorem lastBelow_lt {f : Nat → Bool} : ∀ n k, lastBelow f n = some k → k < n
  | 0, k, h => by cases h
  | n + 1, k, h => by
    unfold lastBelow at h
    split at h
    · cases h; omega
    · have := lastBelow_lt n k h; omega
theorem galeF_lt {P : List Pers} {k : Nat} {L : List Nat} (h : galeF P L = some k) : k < 10 := lastBelow_lt _ _ h
theorem shl_bit : ∀ x, x < 31 → (1 : Int32) <<< (nI x &&& 31) = nI (2 ^ x) := by decide +kernel
section TW
variable {d : Nat} {h : PH} {c f p o : Nat} {P : List Pers} {L : List Nat}
theorem t_sway {u w : Nat} (hu : u * w < 2 ^ 31) : JMt mX7_sway (some .int) d [.int (nI u), .int (nI w)] h (some (.int (nI (u * w / 4)))) h := by
  refine jm mi_X7_sway (Nat.le_of_ble_eq_true rfl) ⟨.int, rfl, rfl⟩ rfl ?_
  have := k_X7_sway_0 (d := d) (h := h) (a0 := nI u) (a1 := nI w) (by decide)
  rw [pk_mul, show (4 : Int32) = nI 4 from rfl, pk_div (by omega) (by omega) (by omega)] at this
  exact this
theorem t_bit {x : Nat} (hx : x ≤ 8) : JMt mX7_bit (some .int) d [.int (nI x)] h (some (.int (nI (2 ^ x)))) h := by
  refine jm mi_X7_bit (Nat.le_of_ble_eq_true rfl) ⟨.int, rfl, rfl⟩ rfl (k_X7_bit_0 (fun q => absurd q (nI_lt0 (by omega))) (fun _ => k_X7_bit_4 (fun q => absurd q (nI_nlt (a := 8) (b := x) (by omega) (by omega))) (fun _ => k_X7_bit_10 ?_)))
  rw [shl_bit x (by omega)]
  exact k_X7_bit_17
theorem t_oneIf {b : Bool} : JMt mX7_oneIf (some .int) d [.int (bI b)] h (some (.int (bI b))) h := by
  refine jm mi_X7_oneIf (Nat.le_of_ble_eq_true rfl) ⟨.int, rfl, rfl⟩ rfl (k_X7_oneIf_0 (fun q => ?_) (fun q => ?_))
  · rw [q]; exact k_X7_oneIf_8 k_X7_oneIf_9
  · rw [bI_n0.mp q]; exact k_X7_oneIf_4 k_X7_oneIf_9
theorem t_slackAt {k : Nat} (hC : CrowdS h c f P) (hP : PileS h p c o L) (hL : inP P L) (hk : k < L.length) : JMt mX2_slackAt (some .int) (d + 2) [.ref p, .int (nI k)] h (some (.int (sI (slackZ P L k)))) h := by
  refine jm mi_X2_slackAt (Nat.le_of_ble_eq_true rfl) ⟨.int, rfl, rfl⟩ rfl ?_
  have := k_X2_slackAt_0 (d := d + 1) (a1 := nI k) hP.1 hP.2.1 (t_onCourse hP hk) (Or.inl rfl) (t_fact (w := 6) hC (hL _ (getD_mem hk)) (by omega)) (Or.inl rfl) hC.1 (t_loadAt hC hP hL hk) (Or.inl rfl) hP.1
  rw [nI_nsub] at this
  exact this
theorem t_isCrushed {k : Nat} (hC : CrowdS h c f P) (hP : PileS h p c o L) (hL : inP P L) (hk : k < L.length) : JMt mX2_isCrushed (some .boolean) (d + 3) [.ref p, .int (nI k)] h (some (.int (bI (crushB P L k)))) h := by
  have hb := slackZ_b (P := P) (L := L) hC.2.2.2.2.2.2 hP.2.2.2.2.2.1 k
  have z0 : (0 : Int32) ≤ sI (slackZ P L k) ↔ 0 ≤ slackZ P L k := by rw [show (0 : Int32) = sI 0 from rfl, sI_le (by omega) (by omega) (by omega) (by omega)]
  cases hc : crushB P L k with
  | true => exact jm mi_X2_isCrushed (Nat.le_of_ble_eq_true rfl) ⟨.boolean, rfl, rfl⟩ rfl (k_X2_isCrushed_0 (t_slackAt hC hP hL hk) (Or.inl rfl) hP.1 (fun q => absurd (z0.mp q) (by have := crush_iff.mp hc; omega)) (fun _ => k_X2_isCrushed_8 k_X2_isCrushed_13))
  | false => exact jm mi_X2_isCrushed (Nat.le_of_ble_eq_true rfl) ⟨.boolean, rfl, rfl⟩ rfl (k_X2_isCrushed_0 (t_slackAt hC hP hL hk) (Or.inl rfl) hP.1 (fun _ => k_X2_isCrushed_12 k_X2_isCrushed_13) (fun q => absurd (z0.mpr (by
      rcases Int.lt_or_le (slackZ P L k) 0 with z | z
      · rw [crush_iff.mpr z] at hc; cases hc
      · exact z)) q))
theorem t_isShaken {k w : Nat} (hC : CrowdS h c f P) (hP : PileS h p c o L) (hL : inP P L) (hk : k < L.length) (hw : w ≤ 9) : JMt mX2_isShaken (some .boolean) (d + 2) [.ref p, .int (nI k), .int (nI w)] h (some (.int (bI (shakeB P w L k)))) h := by
  have ht := tall_b (P := P) (L := L) hC.2.2.2.2.2.2 hP.2.2.2.2.2.1 k
  have hm : tallL P (L.take k) * w ≤ 48 * 9 := Nat.mul_le_mul ht hw
  have hn := (pg_ok hC.2.2.2.2.2.2 (L.getD k 0)).2.2.2.2
  have e4 : factP (pg P (L.getD k 0)) 4 = (pg P (L.getD k 0)).2.2.2.2 := rfl
  cases hc : shakeB P w L k with
  | true =>
    have hq := of_decide_eq_true hc
    exact jm mi_X2_isShaken (Nat.le_of_ble_eq_true rfl) ⟨.boolean, rfl, rfl⟩ rfl (k_X2_isShaken_0 (t_upAt hC hP hL (by omega)) (Or.inl rfl) hP.1 (t_sway (by omega)) (Or.inl rfl) hP.1 hP.2.1 (t_onCourse hP hk) (Or.inl rfl) (t_fact (w := 4) hC (hL _ (getD_mem hk)) (by omega)) (Or.inl rfl) hC.1 (fun q => absurd ((nI_leI (by omega) (by rw [e4]; omega)).mp q) (by rw [e4]; omega)) (fun _ => k_X2_isShaken_25 k_X2_isShaken_30))
  | false =>
    have hq := of_decide_eq_false hc
    exact jm mi_X2_isShaken (Nat.le_of_ble_eq_true rfl) ⟨.boolean, rfl, rfl⟩ rfl (k_X2_isShaken_0 (t_upAt hC hP hL (by omega)) (Or.inl rfl) hP.1 (t_sway (by omega)) (Or.inl rfl) hP.1 hP.2.1 (t_onCourse hP hk) (Or.inl rfl) (t_fact (w := 4) hC (hL _ (getD_mem hk)) (by omega)) (Or.inl rfl) hC.1 (fun _ => k_X2_isShaken_29 k_X2_isShaken_30) (fun q => absurd ((nI_leI (by omega) (by rw [e4]; omega)).mpr (by rw [e4]; omega)) q))
theorem l_weakCourse {w : Nat} (hC : CrowdS h c f P) (hP : PileS h p c o L) (hL : inP P L) (hw : w ≤ 9) : ∀ n j, L.length - j = n → j ≤ L.length → J mX2_weakCourse (d + 1) 11 [some (.ref p), some (.int (nI w)), some (.int (nI (massL P (L.drop j)))), some (.int (nI (tallL P (L.take j)))), some (.int (nI j)), none] [] h (some (.int (oI (firstFrom (fun k => crushB P L k || shakeB P w L k) n j)))) h := by
  have hP' := hP
  obtain ⟨p1, p2, p3, p4, p5, p6, p7⟩ := hP
  intro n
  induction n with
  | zero =>
    intro j hj hl
    exact k_X2_weakCourse_11 p1 (fun _ => k_X2_weakCourse_100) (fun q => absurd (by rw [p5]; exact nI_le (by omega) (by omega)) q)
  | succ n ih =>
    intro j hj hl
    have hjl : j < L.length := by omega
    have hxl := hL _ (getD_mem hjl)
    have ok := hC.2.2.2.2.2.2
    have hb1 := bearP_le (pg_ok ok (L.getD j 0))
    have hn1 := (pg_ok ok (L.getD j 0)).2.2.2.2
    have hm1 := mass_b (P := P) (L := L) ok p6 (j + 1)
    have ht := tall_b (P := P) (L := L) ok p6 j
    have hm : tallL P (L.take j) * w ≤ 48 * 9 := Nat.mul_le_mul ht hw
    have e4 : factP (pg P (L.getD j 0)) 4 = (pg P (L.getD j 0)).2.2.2.2 := rfl
    have e6 : factP (pg P (L.getD j 0)) 6 = bearP (pg P (L.getD j 0)) := rfl
    have e5 : nI (massL P (L.drop j)) - nI (factP (pg P (L.getD j 0)) 5) = nI (massL P (L.drop (j + 1))) := by
      rw [drop_cons hjl, massL_cons, pk_sub (by show massP _ ≤ _; omega)]
      congr 1
      show massP _ + _ - massP _ = _
      omega
    refine k_X2_weakCourse_11 p1 (fun q => absurd q (by rw [p5]; exact nI_ge hjl (by omega))) (fun _ => k_X2_weakCourse_20 p1 p3 (t_pick (k := j) p4 (by omega) (by omega)) (Or.inl rfl) p1 p2 (by rw [p7 j hjl]; exact t_fact (w := 5) hC hxl (by omega)) (Or.inl rfl) hC.1 p1 p2 (by rw [p7 j hjl]; exact t_fact (w := 6) hC hxl (by omega)) (Or.inl rfl) hC.1 (fun q => ?_) (fun q => ?_))
    · rw [e5, nI_ltI (by rw [e6]; omega) (by omega)] at q
      have : crushB P L j = true := decide_eq_true (by rw [e6] at q; exact q)
      unfold firstFrom
      rw [if_pos (by simp [this])]
      exact k_X2_weakCourse_77
    · rw [e5, nI_ltI (by rw [e6]; omega) (by omega)] at q
      have hcr : crushB P L j = false := decide_eq_false (by rw [e6] at q; exact q)
      rw [p7 j hjl, e5]
      refine k_X2_weakCourse_59 (t_sway (by omega)) (Or.inl rfl) p1 p2 (t_fact (w := 4) hC hxl (by omega)) (Or.inl rfl) hC.1 (fun q => ?_) (fun q => ?_)
      · rw [nI_leI (by omega) (by rw [e4]; omega), e4] at q
        have hsh : shakeB P w L j = false := decide_eq_false (by omega)
        unfold firstFrom
        rw [if_neg (by simp [hcr, hsh])]
        refine k_X2_weakCourse_80 p1 p2 (t_fact (w := 7) hC hxl (by omega)) (Or.inl rfl) hC.1 ?_
        have e7 : nI (tallL P (L.take j)) + nI (factP (pg P (L.getD j 0)) 7) = nI (tallL P (L.take (j + 1))) := by rw [nI_add, take_succ hjl, tallL_snoc]; rfl
        rw [nI_1, e7]
        exact ih (j + 1) (by omega) (by omega)
      · rw [nI_leI (by omega) (by rw [e4]; omega), e4] at q
        have hsh : shakeB P w L j = true := decide_eq_true (by omega)
        unfold firstFrom
        rw [if_pos (by simp [hsh])]
        exact k_X2_weakCourse_77
theorem t_weakCourse {w : Nat} (hC : CrowdS h c f P) (hP : PileS h p c o L) (hL : inP P L) (hw : w ≤ 9) : JMt mX2_weakCourse (some .int) (d + 2) [.ref p, .int (nI w)] h (some (.int (oI (weakF P w L)))) h := by
  have hlen := hP.2.2.2.2.2.1
  refine jm mi_X2_weakCourse (Nat.le_of_ble_eq_true rfl) ⟨.int, rfl, rfl⟩ rfl (k_X2_weakCourse_0 (t_loadAll hC hP hL) (Or.inl rfl) hP.1 ?_)
  exact l_weakCourse (d := d + 1) hC hP hL hw L.length 0 rfl (Nat.zero_le _)
theorem oI_weak {w : Nat} (hlen : L.length ≤ 8) : oI (weakF P w L) = -1 ↔ firmB P w L = true := by
  rw [oI_neg (fun k hk => by have := weakF_lt hk; omega)]
  unfold firmB
  rw [Option.isNone_iff_eq_none]
theorem t_isFirm {w : Nat} (hC : CrowdS h c f P) (hP : PileS h p c o L) (hL : inP P L) (hw : w ≤ 9) : JMt mX2_isFirm (some .boolean) (d + 3) [.ref p, .int (nI w)] h (some (.int (bI (firmB P w L)))) h := by
  have hlen := hP.2.2.2.2.2.1
  refine jm mi_X2_isFirm (Nat.le_of_ble_eq_true rfl) ⟨.boolean, rfl, by cases firmB P w L <;> rfl⟩ rfl (k_X2_isFirm_0 (t_weakCourse hC hP hL hw) (Or.inl rfl) hP.1 (fun q => ?_) (fun q => ?_))
  · rw [oI_weak hlen, Bool.not_eq_true] at q
    rw [q]
    exact k_X2_isFirm_13 k_X2_isFirm_14
  · rw [oI_weak hlen] at q
    rw [q]
    exact k_X2_isFirm_9 k_X2_isFirm_14
theorem l_greatestWind (hC : CrowdS h c f P) (hP : PileS h p c o L) (hL : inP P L) : ∀ n : Nat, n ≤ 10 → J mX2_greatestWind (d + 4) 3 [some (.ref p), some (.int (sI ((n : Int) - 1)))] [] h (some (.int (oI (lastBelow (fun w => firmB P w L) n)))) h := by
  intro n
  induction n with
  | zero =>
    intro _
    exact k_X2_greatestWind_3 (fun _ => k_X2_greatestWind_23) (fun q => absurd (by decide) q)
  | succ n ih =>
    intro hn
    have e : sI (((n + 1 : Nat) : Int) - 1) = nI n := by rw [nI_sI]; congr 1; omega
    rw [e]
    refine k_X2_greatestWind_3 (fun q => absurd q (nI_lt0 (by omega))) (fun _ => k_X2_greatestWind_7 (t_isFirm hC hP hL (by omega)) (Or.inl rfl) hP.1 (fun q => ?_) (fun q => ?_))
    · have q' := bI_0.mp q
      refine k_X2_greatestWind_17 ?_
      have e2 : nI n + (-1) = sI ((n : Int) - 1) := by rw [nI_sI, neg1_sI, sI_add]; rfl
      rw [e2, lastBelow, if_neg (by rw [q']; decide)]
      exact ih (by omega)
    · have q' := bI_n0.mp q
      rw [lastBelow, if_pos q']
      exact k_X2_greatestWind_15
theorem t_greatestWind (hC : CrowdS h c f P) (hP : PileS h p c o L) (hL : inP P L) : JMt mX2_greatestWind (some .int) (d + 4) [.ref p] h (some (.int (oI (galeF P L)))) h :=
  jm mi_X2_greatestWind (Nat.le_of_ble_eq_true rfl) ⟨.int, rfl, rfl⟩ rfl (k_X2_greatestWind_0 (l_greatestWind hC hP hL 10 (Nat.le_refl _)))
end TW
