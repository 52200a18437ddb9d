/-! the Reader: tokens, words, numbers, statements -/
def loT (k : Nat) : Nat := if k = 2 then 1 else 0
def hiT (k : Nat) : Nat := if k = 0 then 5 else if k = 1 then 9 else if k = 3 then 99 else 40
def mayB (k : Nat) (v : Int) : Bool := decide ((loT k : Int) ≤ v ∧ v ≤ (hiT k : Int))
theorem t_mayBe {d : Nat} {h : PH} {k : Nat} {v : Int32} (hk : k < 5) : JMt mX7_mayBe (some .boolean) (d + 1) [.int (nI k), .int v] h (some (.int (bI (mayB k v.toInt)))) h := by
  have e1 : (cget 1 k).toInt = (loT k : Int) := by
    have : k = 0 ∨ k = 1 ∨ k = 2 ∨ k = 3 ∨ k = 4 := by omega
    rcases this with rfl | rfl | rfl | rfl | rfl <;> rfl
  have e2 : (cget 2 k).toInt = (hiT k : Int) := by
    have : k = 0 ∨ k = 1 ∨ k = 2 ∨ k = 3 ∨ k = 4 := by omega
    rcases this with rfl | rfl | rfl | rfl | rfl <;> rfl
  refine jm mi_X7_mayBe (Nat.le_of_ble_eq_true rfl) ⟨.boolean, rfl, by cases mayB k v.toInt <;> rfl⟩ rfl (k_X7_mayBe_0 (t_pickC (i := 1) (k := k) (by omega) (by show k < 5; omega) (by decide)) (Or.inl rfl) (fun q => ?_) (fun q => k_X7_mayBe_11 (t_pickC (i := 2) (k := k) (by omega) (by show k < 5; omega) (by decide)) (Or.inl rfl) (fun q2 => ?_) (fun q2 => ?_)))
  · rw [fa_lt, e1] at q
    have : mayB k v.toInt = false := decide_eq_false (by omega)
    rw [this]; exact k_X7_mayBe_26 k_X7_mayBe_27
  · rw [fa_lt, e2] at q2
    have : mayB k v.toInt = false := decide_eq_false (by omega)
    rw [this]; exact k_X7_mayBe_26 k_X7_mayBe_27
  · rw [fa_lt, e1] at q
    rw [fa_lt, e2] at q2
    have : mayB k v.toInt = true := decide_eq_true (by omega)
    rw [this]; exact k_X7_mayBe_22 k_X7_mayBe_27
def isLB (b : Nat) : Bool := decide (97 ≤ b ∧ b ≤ 122)
def isDB (b : Nat) : Bool := decide (48 ≤ b ∧ b ≤ 57)
/-- the first place from i on at which f ends -/
def runF (f : Nat → Bool) (B : List Nat) (i : Nat) : Nat := (firstFrom (fun j => !f (B.getD j 0)) (B.length - i) i).getD B.length
theorem runF_end {f : Nat → Bool} {B : List Nat} {i : Nat} (h : B.length ≤ i) : runF f B i = B.length := by
  unfold runF
  rw [show B.length - i = 0 by omega]
  rfl
theorem runF_stop {f : Nat → Bool} {B : List Nat} {i : Nat} (h : i < B.length) (hf : f (B.getD i 0) = false) : runF f B i = i := by
  unfold runF
  rw [show B.length - i = (B.length - i - 1) + 1 by omega, firstFrom, if_pos (by rw [hf]; rfl)]
  rfl
theorem runF_go {f : Nat → Bool} {B : List Nat} {i : Nat} (h : i < B.length) (hf : f (B.getD i 0) = true) : runF f B i = runF f B (i + 1) := by
  unfold runF
  rw [show B.length - i = (B.length - (i + 1)) + 1 by omega, firstFrom, if_neg (by rw [hf]; decide)]
theorem runF_b {f : Nat → Bool} {B : List Nat} {i : Nat} (h : i ≤ B.length) : i ≤ runF f B i ∧ runF f B i ≤ B.length ∧ ∀ j, i ≤ j → j < runF f B i → f (B.getD j 0) = true := by
  unfold runF
  cases hq : firstFrom (fun j => !f (B.getD j 0)) (B.length - i) i with
  | none =>
    have := (firstFrom_none _ _).mp hq
    refine ⟨h, Nat.le_refl _, fun j h1 h2 => ?_⟩
    have h2 : j < B.length := h2
    have z := this j h1 (by omega)
    simpa using z
  | some k =>
    obtain ⟨h1, h2, h3, h4⟩ := firstFrom_lt _ _ _ hq
    refine ⟨h1, by show k ≤ _; omega, fun j h5 h6 => ?_⟩
    have z := h4 j h5 h6
    simpa using z
abbrev Tok : Type := Nat × Nat × Nat
def tokF (B : List Nat) (i : Nat) : Tok :=
  if runF (fun b => decide (b = 32)) B i = B.length then (0, B.length, B.length)
  else if isLB (B.getD (runF (fun b => decide (b = 32)) B i) 0) then (1, runF (fun b => decide (b = 32)) B i, runF isLB B (runF (fun b => decide (b = 32)) B i))
  else if isDB (B.getD (runF (fun b => decide (b = 32)) B i) 0) then (2, runF (fun b => decide (b = 32)) B i, runF isDB B (runF (fun b => decide (b = 32)) B i))
  else (if B.getD (runF (fun b => decide (b = 32)) B i) 0 = 59 then 3 else 4, runF (fun b => decide (b = 32)) B i, runF (fun b => decide (b = 32)) B i + 1)
/-- a token as it is read of a tape -/
def tokOK (B : List Nat) (k : Tok) : Prop := k.2.1 ≤ k.2.2 ∧ k.2.2 ≤ B.length ∧ (k.1 = 2 → ∀ j, k.2.1 ≤ j → j < k.2.2 → isDB (B.getD j 0) = true) ∧ (k.1 ≠ 0 → k.2.1 < k.2.2) ∧ k.1 ≤ 4
theorem tokF_ok {B : List Nat} {i : Nat} (hi : i ≤ B.length) : tokOK B (tokF B i) ∧ i ≤ (tokF B i).2.1 := by
  have hb := runF_b (f := fun b => decide (b = 32)) hi
  unfold tokF tokOK
  by_cases h1 : runF (fun b => decide (b = 32)) B i = B.length
  · rw [if_pos h1]
    exact ⟨⟨Nat.le_refl _, Nat.le_refl _, fun z => (by cases z), fun z => absurd rfl z, Nat.zero_le _⟩, hi⟩
  · rw [if_neg h1]
    generalize hs : runF (fun b => decide (b = 32)) B i = s at *
    have hsl : s < B.length := by omega
    by_cases h2 : isLB (B.getD s 0) = true
    · rw [if_pos h2]
      have hb2 := runF_b (f := isLB) (B := B) (i := s) (by omega)
      have hb3 := runF_go hsl h2
      have hb4 := runF_b (f := isLB) (B := B) (i := s + 1) (by omega)
      refine ⟨⟨hb2.1, hb2.2.1, fun z => (by cases z), fun _ => ?_, by show (1 : Nat) ≤ 4; omega⟩, hb.1⟩
      show s < runF isLB B s
      rw [hb3]; omega
    · rw [if_neg h2]
      by_cases h3 : isDB (B.getD s 0) = true
      · rw [if_pos h3]
        have hb2 := runF_b (f := isDB) (B := B) (i := s) (by omega)
        have hb3 := runF_go hsl h3
        have hb4 := runF_b (f := isDB) (B := B) (i := s + 1) (by omega)
        refine ⟨⟨hb2.1, hb2.2.1, fun _ => hb2.2.2, fun _ => ?_, by show (2 : Nat) ≤ 4; omega⟩, hb.1⟩
        show s < runF isDB B s
        rw [hb3]; omega
      · rw [if_neg h3]
        refine ⟨⟨by show s ≤ s + 1; omega, by show s + 1 ≤ _; omega, fun z => ?_, fun _ => by show s < s + 1; omega, ?_⟩, hb.1⟩
        · exfalso
          have z : (if B.getD s 0 = 59 then 3 else 4) = 2 := z
          split at z <;> omega
        · show (if B.getD s 0 = 59 then 3 else 4) ≤ 4
          split <;> omega
/-- of m figures from s on: the number -/
def valF (B : List Nat) (s : Nat) : Nat → Nat
  | 0 => 0
  | m + 1 => 10 * valF B s m + (B.getD (s + m) 0 - 48)
theorem valF_lt {B : List Nat} {s : Nat} : ∀ m, (∀ j, s ≤ j → j < s + m → isDB (B.getD j 0) = true) → valF B s m < 10 ^ m
  | 0, _ => Nat.one_pos
  | m + 1, h => by
    have ih := valF_lt m (fun j h1 h2 => h j h1 (by omega))
    have hd := of_decide_eq_true (h (s + m) (by omega) (by omega))
    unfold valF
    rw [Nat.pow_succ]
    omega
def numF (B : List Nat) (k : Tok) : Option Nat := if k.1 = 2 ∧ k.2.2 - k.2.1 ≤ 3 then some (valF B k.2.1 (k.2.2 - k.2.1)) else none
theorem numF_lt {B : List Nat} {k : Tok} {v : Nat} (hk : tokOK B k) (h : numF B k = some v) : v < 1000 := by
  unfold numF at h
  split at h
  · rename_i h1
    cases h
    have := valF_lt (B := B) (s := k.2.1) (k.2.2 - k.2.1) (fun j z1 z2 => hk.2.2.1 h1.1 j z1 (by have := hk.1; omega))
    have h3 : 10 ^ (k.2.2 - k.2.1) ≤ 10 ^ 3 := Nat.pow_le_pow_right (by omega) h1.2
    omega
  · cases h
def wordB (B : List Nat) (k : Tok) (i : Nat) : Bool := decide (k.1 = 1 ∧ k.2.2 - k.2.1 = lenS i ∧ ∀ j, j < lenS i → nI (B.getD (k.2.1 + j) 0) = chr i j)
def ReadT (h : PH) (r q t : Nat) : Prop := hG h r = (3, 5) ∧ hR h r 0 = some t ∧ hR h r 1 = some q ∧ hG h q = (20, 5)
def ReadS (h : PH) (r q t : Nat) (k : Tok) : Prop := ReadT h r q t ∧ hI h r 2 = nI k.1 ∧ hI h r 3 = nI k.2.1 ∧ hI h r 4 = nI k.2.2
theorem ReadT.keep {S : Nat → Prop} {h h1 : PH} {r q t : Nat} (hR : ReadT h r q t) (a : Upd S h h1) : ReadT h1 r q t := by
  obtain ⟨r1, r2, r3, r4⟩ := hR
  exact ⟨by rw [a.gg]; exact r1, by rw [a.rr]; exact r2, by rw [a.rr]; exact r3, by rw [a.gg]; exact r4⟩
theorem ReadS.keep {S : Nat → Prop} {h h1 : PH} {r q t : Nat} {k : Tok} (hR : ReadS h r q t k) (a : Upd S h h1) (hr : ¬ S r) : ReadS h1 r q t k := by
  obtain ⟨r1, r2, r3, r4⟩ := hR
  have e := a.2.2.2.2.2 r hr
  exact ⟨r1.keep a, by rw [e]; exact r2, by rw [e]; exact r3, by rw [e]; exact r4⟩
theorem TapeS.keep {S : Nat → Prop} {h h1 : PH} {t l : Nat} {B : List Nat} (hT : TapeS h t l B) (a : Upd S h h1) (ht : ¬ S t) (hl : ¬ S l) : TapeS h1 t l B := hT.chg a.chg ht hl
section RD
variable {d : Nat} {h : PH} {r q t l : Nat} {B : List Nat}
theorem t_isLetter {b : Nat} (hb : b < 256) : JMt mX3_isLetter (some .boolean) d [.int (nI b)] h (some (.int (bI (isLB b)))) h := by
  refine jm mi_X3_isLetter (Nat.le_of_ble_eq_true rfl) ⟨.boolean, rfl, by cases isLB b <;> rfl⟩ rfl (k_X3_isLetter_0 (fun q => ?_) (fun q => k_X3_isLetter_6 (fun q2 => ?_) (fun q2 => ?_)))
  · rw [show (97 : Int32) = nI 97 from rfl, nI_ltI (by omega) (by omega)] at q
    rw [show isLB b = false from decide_eq_false (by omega)]; exact k_X3_isLetter_16 k_X3_isLetter_17
  · rw [show (122 : Int32) = nI 122 from rfl, nI_ltI (by omega) (by omega)] at q2
    rw [show isLB b = false from decide_eq_false (by omega)]; exact k_X3_isLetter_16 k_X3_isLetter_17
  · rw [show (97 : Int32) = nI 97 from rfl, nI_ltI (by omega) (by omega)] at q
    rw [show (122 : Int32) = nI 122 from rfl, nI_ltI (by omega) (by omega)] at q2
    rw [show isLB b = true from decide_eq_true (by omega)]; exact k_X3_isLetter_12 k_X3_isLetter_17
theorem t_isDigit {b : Nat} (hb : b < 256) : JMt mX3_isDigit (some .boolean) d [.int (nI b)] h (some (.int (bI (isDB b)))) h := by
  refine jm mi_X3_isDigit (Nat.le_of_ble_eq_true rfl) ⟨.boolean, rfl, by cases isDB b <;> rfl⟩ rfl (k_X3_isDigit_0 (fun q => ?_) (fun q => k_X3_isDigit_6 (fun q2 => ?_) (fun q2 => ?_)))
  · rw [show (48 : Int32) = nI 48 from rfl, nI_ltI (by omega) (by omega)] at q
    rw [show isDB b = false from decide_eq_false (by omega)]; exact k_X3_isDigit_16 k_X3_isDigit_17
  · rw [show (57 : Int32) = nI 57 from rfl, nI_ltI (by omega) (by omega)] at q2
    rw [show isDB b = false from decide_eq_false (by omega)]; exact k_X3_isDigit_16 k_X3_isDigit_17
  · rw [show (48 : Int32) = nI 48 from rfl, nI_ltI (by omega) (by omega)] at q
    rw [show (57 : Int32) = nI 57 from rfl, nI_ltI (by omega) (by omega)] at q2
    rw [show isDB b = true from decide_eq_true (by omega)]; exact k_X3_isDigit_12 k_X3_isDigit_17
theorem tape_b (hT : TapeS h t l B) (j : Nat) : B.getD j 0 < 256 := by
  rw [List.getD_eq_getElem?_getD]
  cases hj : B[j]? with
  | none => show 0 < 256; omega
  | some b => exact hT.2.2.2.2.2.2 b (List.mem_of_getElem? hj)
theorem read_ne (hR : ReadT h r q t) (hT : TapeS h t l B) : t ≠ r ∧ l ≠ r ∧ q ≠ r := by
  obtain ⟨r1, r2, r3, r4⟩ := hR
  obtain ⟨t1, t2, t3, t4⟩ := hT
  exact ⟨fun e => (by rw [e, r1] at t1; cases t1), fun e => (by rw [e, r1] at t3; cases t3), fun e => (by rw [e, r1] at r4; cases r4)⟩
/-- spaces are passed -/
theorem l_skip : ∀ m j (h : PH), B.length - j = m → j ≤ B.length → ReadT h r q t → TapeS h t l B → hI h r 4 = nI j → ∃ h1, (∀ o h', J mX3_step (d + 2) 43 [some (.ref r), none] [] h1 o h' → J mX3_step (d + 2) 0 [some (.ref r), none] [] h o h') ∧ Upd (fun i => i = r) h h1 ∧ hI h1 r 4 = nI (runF (fun b => decide (b = 32)) B j) := by
  intro m
  induction m with
  | zero =>
    intro j h hj hl hR hT h4
    refine ⟨h, fun o h' k => k_X3_step_0 hR.1 hR.2.1 hT.1 (fun _ => k) (fun q => absurd (by rw [hT.2.2.2.1, h4]; exact nI_le (by omega) (by have := hT.2.2.2.2.1; omega)) q), Upd.rf, ?_⟩
    rw [runF_end (by omega), h4]; congr 1; omega
  | succ m ih =>
    intro j h hj hl hR hT h4
    have h250 := hT.2.2.2.2.1
    have hjl : j < B.length := by omega
    have hlet : JMt mX5_letter (some .int) (d + 1) [.ref t, .int (hI h r 4)] h (some (.int (nI (B.getD j 0)))) h := by rw [h4]; exact t_letter hT hjl
    have hb := tape_b hT j
    by_cases hs : B.getD j 0 = 32
    · have hU : Upd (fun i => i = r) h (setI h r 4 (hI h r 4 + (1 : Int32))) := Upd.set rfl
      have hne := read_ne hR hT
      obtain ⟨h1, hk, hU1, h41⟩ := ih (j + 1) (setI h r 4 (hI h r 4 + (1 : Int32))) (by omega) (by omega) (hR.keep hU) (hT.keep hU hne.1 hne.2.1) (by rw [hI_setI, if_pos ⟨rfl, rfl⟩, h4, nI_1])
      refine ⟨h1, fun o h' k => k_X3_step_0 hR.1 hR.2.1 hT.1 (fun q => absurd q (by rw [hT.2.2.2.1, h4]; exact nI_ge hjl (by omega))) (fun _ => k_X3_step_14 hR.1 hR.2.1 hlet (Or.inl rfl) hT.1 (fun q => absurd (by rw [hs]; rfl) q) (fun _ => k_X3_step_30 hR.1 (hk o h' k))), hU.tr hU1, ?_⟩
      rw [h41, runF_go (i := j) hjl (decide_eq_true hs)]
    · refine ⟨h, fun o h' k => k_X3_step_0 hR.1 hR.2.1 hT.1 (fun q => absurd q (by rw [hT.2.2.2.1, h4]; exact nI_ge hjl (by omega))) (fun _ => k_X3_step_14 hR.1 hR.2.1 hlet (Or.inl rfl) hT.1 (fun _ => k) (fun q => absurd ((nI_eq (a := B.getD j 0) (b := 32) (by omega) (by omega)).mp q) hs)), Upd.rf, ?_⟩
      rw [h4, runF_stop (i := j) hjl (decide_eq_false hs)]
theorem l_letters {x : Int32} : ∀ m j (h : PH), B.length - j = m → j ≤ B.length → ReadT h r q t → TapeS h t l B → hI h r 4 = nI j → ∃ h1, J mX3_step (d + 2) 88 [some (.ref r), some (.int x)] [] h none h1 ∧ Upd (fun i => i = r) h h1 ∧ hI h1 r 4 = nI (runF isLB B j) ∧ hI h1 r 2 = hI h r 2 ∧ hI h1 r 3 = hI h r 3 := by
  intro m
  induction m with
  | zero =>
    intro j h hj hl hR hT h4
    refine ⟨h, k_X3_step_88 hR.1 hR.2.1 hT.1 (fun _ => k_X3_step_213) (fun q => absurd (by rw [hT.2.2.2.1, h4]; exact nI_le (by omega) (by have := hT.2.2.2.2.1; omega)) q), Upd.rf, ?_, rfl, rfl⟩
    rw [runF_end (by omega), h4]; congr 1; omega
  | succ m ih =>
    intro j h hj hl hR hT h4
    have h250 := hT.2.2.2.2.1
    have hjl : j < B.length := by omega
    have hlet : JMt mX5_letter (some .int) (d + 1) [.ref t, .int (hI h r 4)] h (some (.int (nI (B.getD j 0)))) h := by rw [h4]; exact t_letter hT hjl
    have hb := tape_b hT j
    cases hs : isLB (B.getD j 0) with
    | true =>
      have hU : Upd (fun i => i = r) h (setI h r 4 (hI h r 4 + (1 : Int32))) := Upd.set rfl
      have hne := read_ne hR hT
      obtain ⟨h1, hk, hU1, h41, h42, h43⟩ := ih (j + 1) (setI h r 4 (hI h r 4 + (1 : Int32))) (by omega) (by omega) (hR.keep hU) (hT.keep hU hne.1 hne.2.1) (by rw [hI_setI, if_pos ⟨rfl, rfl⟩, h4, nI_1])
      refine ⟨h1, k_X3_step_88 hR.1 hR.2.1 hT.1 (fun q => absurd q (by rw [hT.2.2.2.1, h4]; exact nI_ge hjl (by omega))) (fun _ => k_X3_step_102 hR.1 hR.2.1 hlet (Or.inl rfl) hT.1 (t_isLetter hb) (Or.inl rfl) (fun q => absurd q (by rw [hs]; decide)) (fun _ => k_X3_step_119 hR.1 hk)), hU.tr hU1, ?_, ?_, ?_⟩
      · rw [h41, runF_go (i := j) hjl hs]
      · rw [h42, hI_setI, if_neg (fun z => by omega)]
      · rw [h43, hI_setI, if_neg (fun z => by omega)]
    | false =>
      refine ⟨h, k_X3_step_88 hR.1 hR.2.1 hT.1 (fun q => absurd q (by rw [hT.2.2.2.1, h4]; exact nI_ge hjl (by omega))) (fun _ => k_X3_step_102 hR.1 hR.2.1 hlet (Or.inl rfl) hT.1 (t_isLetter hb) (Or.inl rfl) (fun _ => k_X3_step_213) (fun q => absurd (by rw [hs]; rfl) q)), Upd.rf, ?_, rfl, rfl⟩
      rw [h4, runF_stop (i := j) hjl hs]
theorem l_figures {x : Int32} : ∀ m j (h : PH), B.length - j = m → j ≤ B.length → ReadT h r q t → TapeS h t l B → hI h r 4 = nI j → ∃ h1, J mX3_step (d + 2) 144 [some (.ref r), some (.int x)] [] h none h1 ∧ Upd (fun i => i = r) h h1 ∧ hI h1 r 4 = nI (runF isDB B j) ∧ hI h1 r 2 = hI h r 2 ∧ hI h1 r 3 = hI h r 3 := by
  intro m
  induction m with
  | zero =>
    intro j h hj hl hR hT h4
    refine ⟨h, k_X3_step_144 hR.1 hR.2.1 hT.1 (fun _ => k_X3_step_213) (fun q => absurd (by rw [hT.2.2.2.1, h4]; exact nI_le (by omega) (by have := hT.2.2.2.2.1; omega)) q), Upd.rf, ?_, rfl, rfl⟩
    rw [runF_end (by omega), h4]; congr 1; omega
  | succ m ih =>
    intro j h hj hl hR hT h4
    have h250 := hT.2.2.2.2.1
    have hjl : j < B.length := by omega
    have hlet : JMt mX5_letter (some .int) (d + 1) [.ref t, .int (hI h r 4)] h (some (.int (nI (B.getD j 0)))) h := by rw [h4]; exact t_letter hT hjl
    have hb := tape_b hT j
    cases hs : isDB (B.getD j 0) with
    | true =>
      have hU : Upd (fun i => i = r) h (setI h r 4 (hI h r 4 + (1 : Int32))) := Upd.set rfl
      have hne := read_ne hR hT
      obtain ⟨h1, hk, hU1, h41, h42, h43⟩ := ih (j + 1) (setI h r 4 (hI h r 4 + (1 : Int32))) (by omega) (by omega) (hR.keep hU) (hT.keep hU hne.1 hne.2.1) (by rw [hI_setI, if_pos ⟨rfl, rfl⟩, h4, nI_1])
      refine ⟨h1, k_X3_step_144 hR.1 hR.2.1 hT.1 (fun q => absurd q (by rw [hT.2.2.2.1, h4]; exact nI_ge hjl (by omega))) (fun _ => k_X3_step_158 hR.1 hR.2.1 hlet (Or.inl rfl) hT.1 (t_isDigit hb) (Or.inl rfl) (fun q => absurd q (by rw [hs]; decide)) (fun _ => k_X3_step_175 hR.1 hk)), hU.tr hU1, ?_, ?_, ?_⟩
      · rw [h41, runF_go (i := j) hjl hs]
      · rw [h42, hI_setI, if_neg (fun z => by omega)]
      · rw [h43, hI_setI, if_neg (fun z => by omega)]
    | false =>
      refine ⟨h, k_X3_step_144 hR.1 hR.2.1 hT.1 (fun q => absurd q (by rw [hT.2.2.2.1, h4]; exact nI_ge hjl (by omega))) (fun _ => k_X3_step_158 hR.1 hR.2.1 hlet (Or.inl rfl) hT.1 (t_isDigit hb) (Or.inl rfl) (fun _ => k_X3_step_213) (fun q => absurd (by rw [hs]; rfl) q)), Upd.rf, ?_, rfl, rfl⟩
      rw [h4, runF_stop (i := j) hjl hs]
theorem t_step {i : Nat} (hR : ReadT h r q t) (hT : TapeS h t l B) (h4 : hI h r 4 = nI i) (hi : i ≤ B.length) : ∃ h', JMt mX3_step none (d + 2) [.ref r] h none h' ∧ Upd (fun i => i = r) h h' ∧ ReadS h' r q t (tokF B i) := by
  obtain ⟨h1, hk1, hU1, h41⟩ := l_skip (d := d) _ i h rfl hi hR hT h4
  have hne := read_ne hR hT
  have hR1 := hR.keep hU1
  have hT1 := hT.keep hU1 hne.1 hne.2.1
  have h250 := hT.2.2.2.2.1
  have hb := runF_b (f := fun b => decide (b = 32)) hi
  unfold tokF
  generalize runF (fun b => decide (b = 32)) B i = s at *
  generalize hz2 : setI h1 r 3 (hI h1 r 4) = h2
  have hU2 : Upd (fun i => i = r) h1 h2 := by rw [← hz2]; exact Upd.set rfl
  have hR2 := hR1.keep hU2
  have hT2 := hT1.keep hU2 hne.1 hne.2.1
  have h42 : hI h2 r 4 = nI s := by rw [← hz2, hI_setI, if_neg (fun z => by omega), h41]
  have h32 : hI h2 r 3 = nI s := by rw [← hz2, hI_setI, if_pos ⟨rfl, rfl⟩, h41]
  have U12 := hU1.tr hU2
  by_cases hse : s = B.length
  · rw [if_pos hse]
    have hlet : JMt mX5_letter (some .int) (d + 1) [.ref t, .int (hI h2 r 4)] h2 (some (.int (-1))) h2 := by rw [h42]; exact t_letterN hT2 (by omega) (by omega)
    refine ⟨setI h2 r 2 0, jm mi_X3_step (Nat.le_of_ble_eq_true rfl) rfl rfl (hk1 _ _ (k_X3_step_43 hR1.1 hR1.2.1 (by rw [hz2]; exact hlet) (Or.inl (by rw [hz2])) hT1.1 (fun q => absurd rfl q) (fun _ => k_X3_step_68 hR2.1 k_X3_step_213))), U12.st rfl, hR2.keep (Upd.set (S := fun i => i = r) rfl), ?_, ?_, ?_⟩
    · rw [hI_setI, if_pos ⟨rfl, rfl⟩]; rfl
    · rw [hI_setI, if_neg (fun z => by omega), h32, hse]
    · rw [hI_setI, if_neg (fun z => by omega), h42, hse]
  · rw [if_neg hse]
    have hsl : s < B.length := by omega
    have hlet : JMt mX5_letter (some .int) (d + 1) [.ref t, .int (hI h2 r 4)] h2 (some (.int (nI (B.getD s 0)))) h2 := by rw [h42]; exact t_letter hT2 hsl
    have hbs := tape_b hT s
    have ent : ∀ h', J mX3_step (d + 2) 76 [some (.ref r), some (.int (nI (B.getD s 0)))] [] h2 none h' → JMt mX3_step none (d + 2) [.ref r] h none h' := fun h' k =>
      jm mi_X3_step (Nat.le_of_ble_eq_true rfl) rfl rfl (hk1 _ _ (k_X3_step_43 hR1.1 hR1.2.1 (by rw [hz2]; exact hlet) (Or.inl (by rw [hz2])) hT1.1 (fun _ => k) (fun q => absurd q (nI_nneg1 (by omega)))))
    cases hLs : isLB (B.getD s 0) with
    | true =>
      rw [if_pos rfl]
      have hU3 : Upd (fun i => i = r) h2 (setI h2 r 2 1) := Upd.set rfl
      obtain ⟨h3, hJ, hU4, g1, g2, g3⟩ := l_letters (d := d) (x := nI (B.getD s 0)) _ s (setI h2 r 2 1) rfl (by omega) (hR2.keep hU3) (hT2.keep hU3 hne.1 hne.2.1) (by rw [hI_setI, if_neg (fun z => by omega), h42])
      refine ⟨h3, ent _ (k_X3_step_76 (t_isLetter hbs) (Or.inl rfl) (fun q => absurd q (by rw [hLs]; decide)) (fun _ => k_X3_step_83 hR2.1 hJ)), (U12.tr hU3).tr hU4, (hR2.keep hU3).keep hU4, ?_, ?_, g1⟩
      · rw [g2, hI_setI, if_pos ⟨rfl, rfl⟩]; rfl
      · rw [g3, hI_setI, if_neg (fun z => by omega), h32]
    | false =>
      rw [if_neg (by decide)]
      have nl : ∀ h', J mX3_step (d + 2) 132 [some (.ref r), some (.int (nI (B.getD s 0)))] [] h2 none h' → JMt mX3_step none (d + 2) [.ref r] h none h' := fun h' k => ent _ (k_X3_step_76 (t_isLetter hbs) (Or.inl rfl) (fun _ => k) (fun q => absurd (by rw [hLs]; rfl) q))
      cases hDs : isDB (B.getD s 0) with
      | true =>
        rw [if_pos rfl]
        have hU3 : Upd (fun i => i = r) h2 (setI h2 r 2 2) := Upd.set rfl
        obtain ⟨h3, hJ, hU4, g1, g2, g3⟩ := l_figures (d := d) (x := nI (B.getD s 0)) _ s (setI h2 r 2 2) rfl (by omega) (hR2.keep hU3) (hT2.keep hU3 hne.1 hne.2.1) (by rw [hI_setI, if_neg (fun z => by omega), h42])
        refine ⟨h3, nl _ (k_X3_step_132 (t_isDigit hbs) (Or.inl rfl) (fun q => absurd q (by rw [hDs]; decide)) (fun _ => k_X3_step_139 hR2.1 hJ)), (U12.tr hU3).tr hU4, (hR2.keep hU3).keep hU4, ?_, ?_, g1⟩
        · rw [g2, hI_setI, if_pos ⟨rfl, rfl⟩]; rfl
        · rw [g3, hI_setI, if_neg (fun z => by omega), h32]
      | false =>
        rw [if_neg (by decide)]
        have fin : ∀ v : Nat, ReadS (setI (setI h2 r 2 (nI v)) r 4 (hI (setI h2 r 2 (nI v)) r 4 + (1 : Int32))) r q t (v, s, s + 1) := fun v => by
          refine ⟨(hR2.keep (Upd.set (S := fun i => i = r) rfl)).keep (Upd.set (S := fun i => i = r) rfl), ?_, ?_, ?_⟩
          · rw [hI_setI, if_neg (fun z => by omega), hI_setI, if_pos ⟨rfl, rfl⟩]
          · rw [hI_setI, if_neg (fun z => by omega), hI_setI, if_neg (fun z => by omega), h32]
          · rw [hI_setI, if_pos ⟨rfl, rfl⟩, hI_setI, if_neg (fun z => by omega), h42, nI_1]
        by_cases h59 : B.getD s 0 = 59
        · rw [if_pos h59]
          exact ⟨_, nl _ (k_X3_step_132 (t_isDigit hbs) (Or.inl rfl) (fun _ => k_X3_step_188 (fun q => absurd (by rw [h59]; rfl) q) (fun _ => k_X3_step_195 (k_X3_step_200 (s0 := 3) hR2.1 hR2.1 k_X3_step_213))) (fun q => absurd (by rw [hDs]; rfl) q)), (U12.st rfl).st rfl, fin 3⟩
        · rw [if_neg h59]
          exact ⟨_, nl _ (k_X3_step_132 (t_isDigit hbs) (Or.inl rfl) (fun _ => k_X3_step_188 (fun _ => k_X3_step_199 (k_X3_step_200 (s0 := 4) hR2.1 hR2.1 k_X3_step_213)) (fun q => absurd ((nI_eq (a := B.getD s 0) (b := 59) (by omega) (by omega)).mp q) h59)) (fun q => absurd (by rw [hDs]; rfl) q)), (U12.st rfl).st rfl, fin 4⟩
end RD
