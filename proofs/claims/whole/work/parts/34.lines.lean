/-! sets of a crowd: masses, heights, who may stand where; the class's small reads of a set -/
def difN (S b : Nat) : Nat := S &&& (b ^^^ 255)
theorem dif_bit {S b i : Nat} (hS : S < 256) : (difN S b).testBit i = (S.testBit i && !b.testBit i) := by
  unfold difN
  rw [Nat.testBit_and, Nat.testBit_xor, show (255 : Nat) = 2 ^ 8 - 1 from rfl, Nat.testBit_two_pow_sub_one]
  by_cases h : i < 8
  · rw [show decide (i < 8) = true from decide_eq_true h, Bool.xor_true]
  · have : S.testBit i = false := by
      cases hc : S.testBit i with
      | false => rfl
      | true => exact absurd (bit_lt (n := 8) hS hc) h
    rw [this]; rfl
theorem dif_lt {S b : Nat} (hS : S < 256) : difN S b < 256 := Nat.lt_of_le_of_lt Nat.and_le_left hS
theorem xor255 : ∀ b, b < 256 → ((nI b ^^^ (-1 : Int32)) &&& nI 255) = nI (b ^^^ 255) := by decide +kernel
theorem dif_I {S b : Nat} (hS : S < 256) (hb : b < 256) : nI S &&& (nI b ^^^ (-1 : Int32)) = nI (difN S b) := by
  have e1 : nI S = nI S &&& nI 255 := by
    rw [fa_and]
    congr 1
    apply Nat.eq_of_testBit_eq
    intro i
    rw [Nat.testBit_and, show (255 : Nat) = 2 ^ 8 - 1 from rfl, Nat.testBit_two_pow_sub_one]
    cases hc : S.testBit i with
    | false => rfl
    | true => rw [show decide (i < 8) = true from decide_eq_true (bit_lt (n := 8) hS hc)]; rfl
  rw [e1, Int32.and_assoc, Int32.and_comm (nI 255), xor255 b hb, fa_and]
  rfl
theorem shr1 : ∀ s, s < 256 → ∀ p, p < 8 → ((nI s >>> (nI p &&& 31)) &&& (1 : Int32)) = if s.testBit p then 1 else 0 := by decide +kernel
theorem shr1_iff {s p : Nat} (hs : s < 256) (hp : p < 8) : ((nI s >>> (nI p &&& 31)) &&& (1 : Int32)) = (1 : Int32) ↔ s.testBit p = true := by
  rw [shr1 s hs p hp]
  cases s.testBit p <;> decide
def massS (P : List Pers) (s : Nat) : Nat := sumN (fun p => if s.testBit p then massP (pg P p) else 0) P.length
def tallS (P : List Pers) (s : Nat) : Nat := sumN (fun p => if s.testBit p then tallP (pg P p) else 0) P.length
/-- one put to a set -/
theorem massS_or {P : List Pers} {b p : Nat} (hp : p < P.length) (h : b.testBit p = false) : massS P (b ||| 2 ^ p) = massS P b + massP (pg P p) := by
  refine sumN_one _ hp ?_ (fun i _ hi => ?_)
  · rw [or_bit, h]; simp
  · rw [or_bit, show decide (p = i) = false from decide_eq_false (fun z => hi z.symm), Bool.or_false]
theorem tallS_or {P : List Pers} {b p : Nat} (hp : p < P.length) (h : b.testBit p = false) : tallS P (b ||| 2 ^ p) = tallS P b + tallP (pg P p) := by
  refine sumN_one _ hp ?_ (fun i _ hi => ?_)
  · rw [or_bit, h]; simp
  · rw [or_bit, show decide (p = i) = false from decide_eq_false (fun z => hi z.symm), Bool.or_false]
theorem massS_0 {P : List Pers} : massS P 0 = 0 := by
  have : massS P 0 ≤ 0 * P.length := sumN_le _ (fun i _ => by rw [Nat.zero_testBit]; exact Nat.le_refl _)
  omega
theorem tallS_0 {P : List Pers} : tallS P 0 = 0 := by
  have : tallS P 0 ≤ 0 * P.length := sumN_le _ (fun i _ => by rw [Nat.zero_testBit]; exact Nat.le_refl _)
  omega
theorem massS_le {P : List Pers} (hP : ∀ q ∈ P, okP q) (h8 : P.length ≤ 8) (s : Nat) : massS P s ≤ 392 := by
  have : massS P s ≤ 49 * P.length := sumN_le _ (fun i _ => by
    split
    · exact massP_le (pg_ok hP i)
    · omega)
  omega
theorem tallS_le {P : List Pers} (hP : ∀ q ∈ P, okP q) (h8 : P.length ≤ 8) (s : Nat) : tallS P s ≤ 48 := by
  have : tallS P s ≤ 6 * P.length := sumN_le _ (fun i _ => by
    split
    · exact tallP_le (pg_ok hP i)
    · omega)
  omega
/-- the least in a set -/
def lowK (s : Nat) : Nat := (firstFrom (fun p => s.testBit p) 8 0).getD 0
theorem low_ok : ∀ s, s < 256 → s ≠ 0 → ((nI s &&& -(nI s)) = nI (2 ^ lowK s) ∧ nI (2 ^ lowK s) - 1 = nI (2 ^ lowK s - 1) ∧ popN (2 ^ lowK s - 1) = lowK s ∧ s.testBit (lowK s) = true ∧ (s - 2 ^ lowK s).testBit (lowK s) = false ∧ (s - 2 ^ lowK s) ||| 2 ^ lowK s = s ∧ 2 ^ lowK s - 1 < 256 ∧ 2 ^ lowK s ≤ s ∧ s - 2 ^ lowK s < s) := by decide +kernel
/-- one may stand over those below, all others of the set over him -/
def okS (P : List Pers) (w S b p : Nat) : Bool := (decide (p < P.length) && (S.testBit p && !b.testBit p)) && (decide (massS P (difN S b) - massP (pg P p) ≤ bearP (pg P p)) && decide (tallS P b * w / 4 ≤ (pg P p).2.2.2.2))
/-- one's load there is as told -/
def okB (P : List Pers) (m : Nat) (v : Nat → Int64) (S b p : Nat) : Bool := (decide (p < P.length) && (S.testBit p && !b.testBit p)) && decide ((nI (massS P (difN S b) - massP (pg P p))).toInt64 = cellI m v (nI (popN b)))
theorem okS_steps {P : List Pers} {w S : Nat} (h8 : P.length ≤ 8) (hS : S < 2 ^ P.length) : stepsOK P.length S (okS P w S) := ⟨h8, hS, fun b p h => by
  unfold okS at h
  rw [Bool.and_eq_true, Bool.and_eq_true, Bool.and_eq_true] at h
  exact ⟨h.1.2.1, by simpa using h.1.2.2⟩⟩
theorem okB_steps {P : List Pers} {m S : Nat} {v : Nat → Int64} (h8 : P.length ≤ 8) (hS : S < 2 ^ P.length) : stepsOK P.length S (okB P m v S) := ⟨h8, hS, fun b p h => by
  unfold okB at h
  rw [Bool.and_eq_true, Bool.and_eq_true, Bool.and_eq_true] at h
  exact ⟨h.1.2.1, by simpa using h.1.2.2⟩⟩
theorem pow_le8 {n : Nat} (h : n ≤ 8) : 2 ^ n ≤ 256 := Nat.pow_le_pow_right (n := 2) (by omega) h
theorem or_lt8 {b p : Nat} (hb : b < 256) (hp : p < 8) : b ||| 2 ^ p < 256 := Nat.or_lt_two_pow (n := 8) hb (Nat.pow_lt_pow_right (by omega) hp)
theorem popN_le (s : Nat) : popN s ≤ 8 := by
  have := sumN_le (g := fun i => if s.testBit i then 1 else 0) (b := 1) 8 (fun i _ => by split <;> omega)
  unfold popN
  omega
theorem popN_or {b p : Nat} (hp : p < 8) (h : b.testBit p = false) : popN (b ||| 2 ^ p) = popN b + 1 := by
  refine sumN_one 8 hp ?_ (fun i _ hi => ?_)
  · rw [or_bit, h]; simp
  · rw [or_bit, show decide (p = i) = false from decide_eq_false (fun z => hi z.symm), Bool.or_false]
/-- the lineups at z, of the crowd c; its rows lie behind it -/
def LinT (h : PH) (z c : Nat) : Prop := hG h z = (1, 8) ∧ hR h z 0 = some c ∧ hR h z 1 = some (z + 1) ∧ hR h z 2 = some (z + 2) ∧ hR h z 3 = some (z + 3) ∧ hR h z 4 = some (z + 4) ∧ hR h z 5 = some (z + 5) ∧ hR h z 6 = some (z + 6) ∧ hG h (z + 1) = (20, 256) ∧ hG h (z + 2) = (20, 256) ∧ hG h (z + 3) = (20, 256) ∧ hG h (z + 4) = (20, 256) ∧ hG h (z + 5) = (20, 256) ∧ hG h (z + 6) = (20, 2048) ∧ hI h (z + 1) 0 = 0 ∧ hI h (z + 2) 0 = 0
theorem LinT.keep {S : Nat → Prop} {h h1 : PH} {z c : Nat} (hZ : LinT h z c) (a : Upd S h h1) (m : hI h1 (z + 1) 0 = 0) (t : hI h1 (z + 2) 0 = 0) : LinT h1 z c := by
  obtain ⟨z1, z2, z3, z4, z5, z6, z7, z8, z9, z10, z11, z12, z13, z14, z15, z16⟩ := hZ
  exact ⟨by rw [a.gg]; exact z1, by rw [a.rr]; exact z2, by rw [a.rr]; exact z3, by rw [a.rr]; exact z4, by rw [a.rr]; exact z5, by rw [a.rr]; exact z6, by rw [a.rr]; exact z7, by rw [a.rr]; exact z8, by rw [a.gg]; exact z9, by rw [a.gg]; exact z10, by rw [a.gg]; exact z11, by rw [a.gg]; exact z12, by rw [a.gg]; exact z13, by rw [a.gg]; exact z14, m, t⟩
theorem LinT.keep2 {S : Nat → Prop} {h h1 : PH} {z c : Nat} (hZ : LinT h z c) (a : Upd S h h1) (m : ¬ S (z + 1)) (t : ¬ S (z + 2)) : LinT h1 z c :=
  hZ.keep a (by rw [a.2.2.2.2.2 _ m]; exact hZ.2.2.2.2.2.2.2.2.2.2.2.2.2.2.1) (by rw [a.2.2.2.2.2 _ t]; exact hZ.2.2.2.2.2.2.2.2.2.2.2.2.2.2.2)
theorem LinT.chg {S : Nat → Prop} {h h1 : PH} {z c : Nat} (hZ : LinT h z c) (a : Chg S h h1) (hS : ∀ i, z ≤ i → i < z + 7 → ¬ S i) : LinT h1 z c := by
  obtain ⟨z1, z2, z3, z4, z5, z6, z7, z8, z9, z10, z11, z12, z13, z14, z15, z16⟩ := hZ
  obtain ⟨-, -, e⟩ := a.at z1 (by omega) (hS z (by omega) (by omega))
  obtain ⟨e1, -, -⟩ := a.at z9 (by omega) (hS (z + 1) (by omega) (by omega))
  obtain ⟨e2, -, -⟩ := a.at z10 (by omega) (hS (z + 2) (by omega) (by omega))
  exact ⟨a.gg z1 (by omega), by rw [e]; exact z2, by rw [e]; exact z3, by rw [e]; exact z4, by rw [e]; exact z5, by rw [e]; exact z6, by rw [e]; exact z7, by rw [e]; exact z8, a.gg z9 (by omega), a.gg z10 (by omega), a.gg z11 (by omega), a.gg z12 (by omega), a.gg z13 (by omega), a.gg z14 (by omega), by rw [e1]; exact z15, by rw [e2]; exact z16⟩
def inZ (z : Nat) : Nat → Prop := fun i => z ≤ i ∧ i < z + 7
def MeasS (h : PH) (z : Nat) (P : List Pers) : Prop := ∀ s, s < 2 ^ P.length → hI h (z + 1) s = nI (massS P s) ∧ hI h (z + 2) s = nI (tallS P s)
theorem MeasS.keep {S : Nat → Prop} {h h1 : PH} {z : Nat} {P : List Pers} (hM : MeasS h z P) (a : Upd S h h1) (m : ¬ S (z + 1)) (t : ¬ S (z + 2)) : MeasS h1 z P := fun s hs => by
  rw [a.2.2.2.2.2 _ m, a.2.2.2.2.2 _ t]; exact hM s hs
section LN
variable {d : Nat} {h : PH} {z c f : Nat} {P : List Pers}
theorem l_meas : ∀ m s (h : PH), 2 ^ P.length - s = m → s ≤ 2 ^ P.length → 1 ≤ s → LinT h z c → CrowdS h c f P → ¬ (c = z + 1 ∨ c = z + 2) → ¬ (f = z + 1 ∨ f = z + 2) → (∀ i, i < s → hI h (z + 1) i = nI (massS P i) ∧ hI h (z + 2) i = nI (tallS P i)) →
    ∃ h1, J mX1_measureSets (d + 1) 2 [some (.ref z), some (.int (nI s)), none, none] [] h none h1 ∧ Upd (fun i => i = z + 1 ∨ i = z + 2) h h1 ∧ LinT h1 z c ∧ MeasS h1 z P := by
  intro m
  induction m with
  | zero =>
    intro s h hm hl h1 hZ hC sc sf hI'
    have hb := pow_le8 hC.2.2.2.2.1
    have e : s = 2 ^ P.length := by omega
    refine ⟨h, k_X1_measureSets_2 hZ.1 hZ.2.1 hC.1 (by rw [hC.2.2.2.1]; exact t_bit hC.2.2.2.2.1) (Or.inl rfl) (fun _ => k_X1_measureSets_91) (fun y => absurd (nI_le (by omega) (by omega)) y), Upd.rf, hZ, fun i hi => hI' i (by omega)⟩
  | succ m ih =>
    intro s h hm hl h1 hZ hC sc sf hI'
    have hb := pow_le8 hC.2.2.2.2.1
    have h8 := hC.2.2.2.2.1
    obtain ⟨g1, g2, g3, g4, g5, g6, g7, g8, g9⟩ := low_ok s (by omega) (by omega)
    have hkl : lowK s < P.length := bit_lt (n := P.length) (by omega) g4
    have e1 : nI s - nI (2 ^ lowK s) = nI (s - 2 ^ lowK s) := pk_sub g8
    obtain ⟨i1, i2⟩ := hI' (s - 2 ^ lowK s) g9
    have z9 := hZ.2.2.2.2.2.2.2.2.1
    have z10 := hZ.2.2.2.2.2.2.2.2.2.1
    have mE : massS P (s - 2 ^ lowK s) + massP (pg P (lowK s)) = massS P s := by rw [← massS_or hkl g5, g6]
    have tE : tallS P (s - 2 ^ lowK s) + tallP (pg P (lowK s)) = tallS P s := by rw [← tallS_or hkl g5, g6]
    have hU1 : Upd (fun i => i = z + 1) h (setI h (z + 1) s (nI (massS P s))) := Upd.set rfl
    generalize hh2 : setI h (z + 1) s (nI (massS P s)) = h2 at hU1
    have hC2 := hC.keep hU1 (fun y => sc (Or.inl y)) (fun y => sf (Or.inl y))
    have q1 : hI h2 (z + 1) = fun k => if k = s then nI (massS P s) else hI h (z + 1) k := by
      funext k; rw [← hh2, hI_setI]
      by_cases y : k = s
      · rw [if_pos ⟨rfl, y⟩, if_pos y]
      · rw [if_neg (fun x => y x.2), if_neg y]
    have q2 : hI h2 (z + 2) = hI h (z + 2) := hU1.2.2.2.2.2 _ (by omega)
    have hZ2 := hZ.keep hU1 (by rw [q1]; dsimp only; rw [if_neg (by omega)]; exact hZ.2.2.2.2.2.2.2.2.2.2.2.2.2.2.1) (by rw [q2]; exact hZ.2.2.2.2.2.2.2.2.2.2.2.2.2.2.2)
    have hU2 : Upd (fun i => i = z + 2) h2 (setI h2 (z + 2) s (nI (tallS P s))) := Upd.set rfl
    generalize hh3 : setI h2 (z + 2) s (nI (tallS P s)) = h3 at hU2
    have r2 : hI h3 (z + 2) = fun k => if k = s then nI (tallS P s) else hI h (z + 2) k := by
      funext k; rw [← hh3, hI_setI, q2]
      by_cases y : k = s
      · rw [if_pos ⟨rfl, y⟩, if_pos y]
      · rw [if_neg (fun x => y x.2), if_neg y]
    have r1 : hI h3 (z + 1) = hI h2 (z + 1) := hU2.2.2.2.2.2 _ (by omega)
    have hC3 := hC2.keep hU2 (fun y => sc (Or.inr y)) (fun y => sf (Or.inr y))
    have hZ3 := hZ2.keep hU2 (by rw [r1]; exact hZ2.2.2.2.2.2.2.2.2.2.2.2.2.2.2.1) (by rw [r2]; dsimp only; rw [if_neg (by omega)]; exact hZ.2.2.2.2.2.2.2.2.2.2.2.2.2.2.2)
    have cb : JMt mJ6_bitCount_0f7a4 (some .int) d [.int ((nI s &&& -(nI s)) - (1 : Int32))] h (some (.int (nI (lowK s)))) h := by
      rw [g1, g2]
      have := t_bitCount (d := d) (h := h) g7
      rw [g3] at this
      exact this
    have p1 : JMt mX7_pick (some .int) d [.ref (z + 1), .int (nI s - (nI s &&& -(nI s)))] h (some (.int (nI (massS P (s - 2 ^ lowK s))))) h := by
      rw [g1, e1, ← i1]; exact t_pick z9 (by omega) (by omega)
    have p2 : JMt mX7_pick (some .int) d [.ref (z + 2), .int (nI s - (nI s &&& -(nI s)))] h2 (some (.int (nI (tallS P (s - 2 ^ lowK s))))) h2 := by
      rw [g1, e1, ← i2, ← q2]; exact t_pick hZ2.2.2.2.2.2.2.2.2.2.1 (by omega) (by omega)
    have w1 : JMt mX7_put none d [.ref (z + 1), .int (nI s), .int (nI (massS P (s - 2 ^ lowK s)) + nI (factP (pg P (lowK s)) 5))] h none h2 := by
      rw [nI_add, show massS P (s - 2 ^ lowK s) + factP (pg P (lowK s)) 5 = massS P s from mE, ← hh2]; exact t_put z9 (by omega) (by omega)
    have w2 : JMt mX7_put none d [.ref (z + 2), .int (nI s), .int (nI (tallS P (s - 2 ^ lowK s)) + nI (factP (pg P (lowK s)) 7))] h2 none h3 := by
      rw [nI_add, show tallS P (s - 2 ^ lowK s) + factP (pg P (lowK s)) 7 = tallS P s from tE, ← hh3]; exact t_put hZ2.2.2.2.2.2.2.2.2.2.1 (by omega) (by omega)
    obtain ⟨h4, j1, j2, j3, j4⟩ := ih (s + 1) h3 (by omega) (by omega) (by omega) hZ3 hC3 sc sf (fun i hi => by
      rw [r1, q1, r2]
      dsimp only
      by_cases y : i = s
      · rw [if_pos y, if_pos y, y]; exact ⟨rfl, rfl⟩
      · rw [if_neg y, if_neg y]; exact hI' i (by omega))
    refine ⟨h4, k_X1_measureSets_2 hZ.1 hZ.2.1 hC.1 (by rw [hC.2.2.2.1]; exact t_bit hC.2.2.2.2.1) (Or.inl rfl) (fun y => absurd y (nI_ge (by omega) (by omega))) (fun _ => k_X1_measureSets_16 cb (Or.inl rfl) hZ.1 hZ.2.2.1 p1 (Or.inl rfl) hZ.1 hZ.2.1 (t_fact (w := 5) hC hkl (by omega)) (Or.inl rfl) hC.1 w1 (Or.inl hU1.1) hZ2.1 hZ2.2.2.2.1 p2 (Or.inl rfl) hZ2.1 hZ2.2.1 (t_fact (w := 7) hC2 hkl (by omega)) (Or.inl rfl) hC2.1 w2 (Or.inl hU2.1) ?_), ((hU1.mono (fun i y => Or.inl y)).tr (hU2.mono (fun i y => Or.inr y))).tr j2, j3, j4⟩
    rw [nI_1]
    exact j1
theorem t_measureSets (hZ : LinT h z c) (hC : CrowdS h c f P) (sc : ¬ (c = z + 1 ∨ c = z + 2)) (sf : ¬ (f = z + 1 ∨ f = z + 2)) : ∃ h1, JMt mX1_measureSets none (d + 1) [.ref z] h none h1 ∧ Upd (fun i => i = z + 1 ∨ i = z + 2) h h1 ∧ LinT h1 z c ∧ MeasS h1 z P := by
  have hp := Nat.two_pow_pos P.length
  obtain ⟨h1, j1, j2⟩ := l_meas (d := d) _ 1 h rfl hp (Nat.le_refl _) hZ hC sc sf (fun i hi => by
    have : i = 0 := by omega
    subst this
    rw [massS_0, tallS_0]
    exact ⟨hZ.2.2.2.2.2.2.2.2.2.2.2.2.2.2.1, hZ.2.2.2.2.2.2.2.2.2.2.2.2.2.2.2⟩)
  exact ⟨h1, jm mi_X1_measureSets (Nat.le_of_ble_eq_true rfl) rfl rfl (k_X1_measureSets_0 j1), j2⟩
theorem massP_in {P : List Pers} {S b p : Nat} (hS : S < 256) (hp : p < P.length) (h1 : S.testBit p = true) (h2 : b.testBit p = false) : massP (pg P p) ≤ massS P (difN S b) := by
  have h3 : (difN S b).testBit p = true := by rw [dif_bit hS, h1, h2]; rfl
  have : massP (pg P p) ≤ sumN (fun q => if (difN S b).testBit q then massP (pg P q) else 0) (p + 1) := by
    rw [sumN, if_pos h3]; omega
  exact Nat.le_trans this (sumN_mono (by omega))
theorem l_whoStands {w b S : Nat} {x1 x2 : Int32} (hZ : LinT h z c) (hC : CrowdS h c f P) (hS : S < 2 ^ P.length) (hw : w ≤ 9) (hb : b < 2 ^ P.length) : ∀ m j, P.length - j = m → j ≤ P.length → J mX1_whoStands (d + 1) 39 [some (.ref z), some (.int x1), some (.int x2), some (.int (nI (difN S b))), some (.int (nI (tallS P b * w / 4))), some (.int (nI (massS P (difN S b)))), some (.int (nI (mkN (okS P w S b) j))), some (.int (nI j))] [] h (some (.int (nI (mkN (okS P w S b) P.length)))) h := by
  have h8 := hC.2.2.2.2.1
  have h256 := pow_le8 h8
  have c4 := hC.2.2.2.1
  have ok := hC.2.2.2.2.2.2
  have hd := dif_lt (S := S) (b := b) (by omega)
  intro m
  induction m with
  | zero =>
    intro j hm hj
    have e : j = P.length := by omega
    subst e
    exact k_X1_whoStands_39 hZ.1 hZ.2.1 hC.1 (fun _ => k_X1_whoStands_118) (fun y => absurd (by rw [c4]; exact nI_le (Nat.le_refl _) (by omega)) y)
  | succ m ih =>
    intro j hm hj
    have hjl : j < P.length := by omega
    have nx := ih (j + 1) (by omega) (by omega)
    rw [mkN_succ] at nx
    have hm1 := massS_le ok h8 (difN S b)
    have ht1 := tallS_le ok h8 b
    have ht2 : tallS P b * w ≤ 48 * 9 := Nat.mul_le_mul ht1 hw
    have hbe := bearP_le (pg_ok ok j)
    have hne := (pg_ok ok j).2.2.2.2
    have ef : ∀ {w'}, factP (pg P j) w' = factP (pg P j) w' := rfl
    have no : okS P w S b j = false → J mX1_whoStands (d + 1) 112 [some (.ref z), some (.int x1), some (.int x2), some (.int (nI (difN S b))), some (.int (nI (tallS P b * w / 4))), some (.int (nI (massS P (difN S b)))), some (.int (nI (mkN (okS P w S b) j))), some (.int (nI j))] [] h (some (.int (nI (mkN (okS P w S b) P.length)))) h := fun e => by
      rw [e, if_neg (by decide)] at nx
      refine k_X1_whoStands_112 ?_
      rw [nI_1]; exact nx
    refine k_X1_whoStands_39 hZ.1 hZ.2.1 hC.1 (fun y => absurd y (by rw [c4]; exact nI_ge hjl (by omega))) (fun _ => k_X1_whoStands_51 (fun y => no ?_) (fun y => ?_))
    · rw [shr1_iff hd (by omega), dif_bit (by omega)] at y
      unfold okS
      cases hx : (S.testBit j && !b.testBit j) with
      | true => exact absurd hx y
      | false => rw [Bool.and_false, Bool.false_and]
    · rw [shr1_iff hd (by omega), dif_bit (by omega)] at y
      have y' := y
      rw [Bool.and_eq_true] at y'
      have mi := massP_in (P := P) (by omega) hjl y'.1 (by simpa using y'.2)
      have e5 : nI (massS P (difN S b)) - nI (factP (pg P j) 5) = nI (massS P (difN S b) - massP (pg P j)) := pk_sub mi
      have e6 : factP (pg P j) 6 = bearP (pg P j) := rfl
      have e4 : factP (pg P j) 4 = (pg P j).2.2.2.2 := rfl
      refine k_X1_whoStands_61 hZ.1 hZ.2.1 (t_fact (w := 5) hC hjl (by omega)) (Or.inl rfl) hC.1 hZ.1 hZ.2.1 (t_fact (w := 6) hC hjl (by omega)) (Or.inl rfl) hC.1 (fun y2 => no ?_) (fun y2 => k_X1_whoStands_88 hZ.1 hZ.2.1 (t_fact (w := 4) hC hjl (by omega)) (Or.inl rfl) hC.1 (fun y3 => no ?_) (fun y3 => k_X1_whoStands_103 (k_X1_whoStands_112 ?_)))
      · rw [e5, e6, nI_ltI (by omega) (by omega)] at y2
        unfold okS
        rw [show decide (massS P (difN S b) - massP (pg P j) ≤ bearP (pg P j)) = false from decide_eq_false (by omega), Bool.false_and, Bool.and_false]
      · rw [e4, nI_ltI (by omega) (by omega)] at y3
        unfold okS
        rw [show decide (tallS P b * w / 4 ≤ (pg P j).2.2.2.2) = false from decide_eq_false (by omega), Bool.and_false, Bool.and_false]
      · rw [e5, e6, nI_ltI (by omega) (by omega)] at y2
        rw [e4, nI_ltI (by omega) (by omega)] at y3
        have : okS P w S b j = true := by
          unfold okS
          rw [y, show decide (j < P.length) = true from decide_eq_true hjl, show decide (massS P (difN S b) - massP (pg P j) ≤ bearP (pg P j)) = true from decide_eq_true (by omega), show decide (tallS P b * w / 4 ≤ (pg P j).2.2.2.2) = true from decide_eq_true (by omega)]
          rfl
        rw [this, if_pos rfl] at nx
        rw [shl_bit j (by omega), fa_or, nI_1]
        exact nx
theorem t_whoStands {w b S : Nat} (hZ : LinT h z c) (hC : CrowdS h c f P) (hM : MeasS h z P) (h7 : hI h z 7 = nI S) (hS : S < 2 ^ P.length) (hw : w ≤ 9) (hb : b < 2 ^ P.length) : JMt mX1_whoStands (some .int) (d + 1) [.ref z, .int (nI b), .int (nI w)] h (some (.int (nI (mkN (okS P w S b) P.length)))) h := by
  have h8 := hC.2.2.2.2.1
  have h256 := pow_le8 h8
  have ok := hC.2.2.2.2.2.2
  have ht1 := tallS_le ok h8 b
  have ht2 : tallS P b * w ≤ 48 * 9 := Nat.mul_le_mul ht1 hw
  have hdl : difN S b < 2 ^ P.length := Nat.lt_of_le_of_lt Nat.and_le_left hS
  have p1 : JMt mX7_pick (some .int) d [.ref (z + 2), .int (nI b)] h (some (.int (nI (tallS P b)))) h := by
    rw [← (hM b hb).2]; exact t_pick hZ.2.2.2.2.2.2.2.2.2.1 (by omega) (by omega)
  have p2 : JMt mX7_pick (some .int) d [.ref (z + 1), .int (hI h z 7 &&& (nI b ^^^ (-1 : Int32)))] h (some (.int (nI (massS P (difN S b))))) h := by
    rw [h7, dif_I (by omega) (by omega), ← (hM _ hdl).1]; exact t_pick hZ.2.2.2.2.2.2.2.2.1 (by omega) (by omega)
  refine jm mi_X1_whoStands (Nat.le_of_ble_eq_true rfl) ⟨.int, rfl, rfl⟩ rfl (k_X1_whoStands_0 hZ.1 hZ.2.2.2.1 p1 (Or.inl rfl) (t_sway (by omega)) (Or.inl rfl) hZ.1 hZ.2.2.1 p2 (Or.inl rfl) ?_)
  rw [h7, dif_I (by omega) (by omega)]
  exact l_whoStands (d := d) hZ hC hS hw hb _ 0 rfl (Nat.zero_le _)
end LN
