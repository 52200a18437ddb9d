/-! the reference reads its tape: a token, a word, a number -/
def fR (m : Nat) : Nat → Nat → Prop := fun i k => (i = m ∧ 24 ≤ k ∧ k ≤ 28) ∨ i = m + 23
theorem fRS {m i k : Nat} (q : fR m i k) : fS m i k := by unfold fR at q; unfold fS; omega
def figV (B : List Nat) (s c : Nat) : Nat := if c ≤ 3 then valF B s c else 1000
def LookR (h : PH) (m : Nat) (B : List Nat) (k : Tok) : Prop := hI h m 24 = nI k.2.2 ∧ hI h m 25 = nI k.1 ∧ hI h m 26 = nI k.2.1 ∧ (k.1 = 2 → hI h m 27 = nI (figV B k.2.1 (k.2.2 - k.2.1)))
theorem MT.kp {F : Nat → Nat → Prop} {h h1 : PH} {m : Nat} {B : List Nat} (hB : MT h m B) (a : Upf F h h1) (hF : ∀ i k, F i k → i ≤ m → i = m ∧ k ≠ 7) (hF2 : ∀ i k, F i k → i ≠ m + 15) : MT h1 m B := hB.of (fun i k q => a.ii (fun z => by have := hF i k z; have := hF2 i k z; omega))
theorem fR7 {m : Nat} : ∀ i k, fR m i k → i ≤ m → i = m ∧ k ≠ 7 := fun i k q => by unfold fR at q; omega
theorem fR15 {m : Nat} : ∀ i k, fR m i k → i ≠ m + 15 := fun i k q => by unfold fR at q; omega
theorem mtape_b {h : PH} {m : Nat} {B : List Nat} (hT : MT h m B) (j : Nat) : B.getD j 0 < 256 := by
  rw [List.getD_eq_getElem?_getD]
  cases hj : B[j]? with
  | none => show 0 < 256; omega
  | some b => exact hT.2.2.1 b (List.mem_of_getElem? hj)
section RL
variable {d : Nat} {h : PH} {m : Nat} {B : List Nat}
theorem u_isLetter {b : Nat} (hb : b < 256) : JMt mX8_isLetter (some .boolean) d [.int (nI b)] h (some (.int (bI (isLB b)))) h := by
  refine jm mi_X8_isLetter (Nat.le_of_ble_eq_true rfl) rB rfl (k_X8_isLetter_0 (fun q => ?_) (fun q => k_X8_isLetter_6 (fun q2 => ?_) (fun q2 => ?_)))
  · rw [show (97 : Int32) = nI 97 from rfl, nI_ltI (by omega) (by omega)] at q
    rw [show isLB b = false from decide_eq_false (by omega)]; exact k_X8_isLetter_16 k_X8_isLetter_17
  · rw [show (122 : Int32) = nI 122 from rfl, nI_ltI (by omega) (by omega)] at q2
    rw [show isLB b = false from decide_eq_false (by omega)]; exact k_X8_isLetter_16 k_X8_isLetter_17
  · rw [show (97 : Int32) = nI 97 from rfl, nI_ltI (by omega) (by omega)] at q
    rw [show (122 : Int32) = nI 122 from rfl, nI_ltI (by omega) (by omega)] at q2
    rw [show isLB b = true from decide_eq_true (by omega)]; exact k_X8_isLetter_12 k_X8_isLetter_17
theorem u_isDigit {b : Nat} (hb : b < 256) : JMt mX8_isDigit (some .boolean) d [.int (nI b)] h (some (.int (bI (isDB b)))) h := by
  refine jm mi_X8_isDigit (Nat.le_of_ble_eq_true rfl) rB rfl (k_X8_isDigit_0 (fun q => ?_) (fun q => k_X8_isDigit_6 (fun q2 => ?_) (fun q2 => ?_)))
  · rw [show (48 : Int32) = nI 48 from rfl, nI_ltI (by omega) (by omega)] at q
    rw [show isDB b = false from decide_eq_false (by omega)]; exact k_X8_isDigit_16 k_X8_isDigit_17
  · rw [show (57 : Int32) = nI 57 from rfl, nI_ltI (by omega) (by omega)] at q2
    rw [show isDB b = false from decide_eq_false (by omega)]; exact k_X8_isDigit_16 k_X8_isDigit_17
  · rw [show (48 : Int32) = nI 48 from rfl, nI_ltI (by omega) (by omega)] at q
    rw [show (57 : Int32) = nI 57 from rfl, nI_ltI (by omega) (by omega)] at q2
    rw [show isDB b = true from decide_eq_true (by omega)]; exact k_X8_isDigit_12 k_X8_isDigit_17
theorem v_skip : ∀ n j (h : PH), B.length - j = n → j ≤ B.length → ModH h m → MT h m B → hI h m 24 = nI j →
    ∃ h1, (∀ o h', J mX8_look (d + 1) 38 [some (.ref m)] [] h1 o h' → J mX8_look (d + 1) 0 [some (.ref m)] [] h o h') ∧ Upf (fun i k => i = m ∧ k = 24) h h1 ∧ hI h1 m 24 = nI (runF (fun b => decide (b = 32)) B j) := by
  intro n
  induction n with
  | zero =>
    intro j h hj hl hM hT h4
    have h250 := hT.2.1
    refine ⟨h, fun o h' kk => k_X8_look_0 hM.g (fun _ => kk) (fun q => absurd (by rw [hT.1, h4]; exact nI_le (by omega) (by omega)) q), Upf.rf, ?_⟩
    rw [runF_end (by omega), h4]; congr 1; omega
  | succ n ih =>
    intro j h hj hl hM hT h4
    have h250 := hT.2.1
    have hjl : j < B.length := by omega
    have hb := mtape_b hT j
    have ce : hI h (m + 15) (hI h m 24).toNatClampNeg = nI (B.getD j 0) := by rw [h4, nI_clamp (by omega)]; exact hT.2.2.2 j hjl
    have ent : ∀ {o : Option Value} {h' : PH}, (¬ B.getD j 0 = 32 → J mX8_look (d + 1) 38 [some (.ref m)] [] h o h') → (B.getD j 0 = 32 → J mX8_look (d + 1) 25 [some (.ref m)] [] h o h') → J mX8_look (d + 1) 0 [some (.ref m)] [] h o h' := fun k1 k2 => k_X8_look_0 hM.g (fun q => absurd q (by rw [hT.1, h4]; exact nI_ge hjl (by omega))) (fun _ => k_X8_look_11 hM.g hM.r6 hM.g6 (by rw [h4]; exact (vp_in_nI (by omega) (by omega))) (fun q => k1 (fun z => q (by rw [ce, z]; rfl))) (fun q => k2 (by rw [ce] at q; exact (nI_eq (b := 32) (by omega) (by omega)).mp q)))
    by_cases hs : B.getD j 0 = 32
    · have U : Upf (fun i k => i = m ∧ k = 24) h (setI h m 24 (hI h m 24 + (1 : Int32))) := Upf.set ⟨rfl, rfl⟩
      obtain ⟨h1, hk, hU1, h41⟩ := ih (j + 1) _ (by omega) (by omega) (hM.keep U) (hT.kp U (fun i k q _ => by omega) (fun i k q => by omega)) (by rw [hI_setI, if_pos ⟨rfl, rfl⟩, h4, nI_1])
      refine ⟨h1, fun o h' kk => ent (fun z => absurd hs z) (fun _ => k_X8_look_25 hM.g (hk o h' kk)), U.tr hU1, ?_⟩
      rw [h41, runF_go (i := j) hjl (decide_eq_true hs)]
    · refine ⟨h, fun o h' kk => ent (fun _ => kk) (fun z => absurd z hs), Upf.rf, ?_⟩
      rw [h4, runF_stop (i := j) hjl (decide_eq_false hs)]
theorem v_letters : ∀ n j (h : PH), B.length - j = n → j ≤ B.length → ModH h m → MT h m B → hI h m 24 = nI j →
    ∃ h1, J mX8_look (d + 1) 90 [some (.ref m)] [] h none h1 ∧ Upf (fun i k => i = m ∧ k = 24) h h1 ∧ hI h1 m 24 = nI (runF isLB B j) := by
  intro n
  induction n with
  | zero =>
    intro j h hj hl hM hT h4
    have h250 := hT.2.1
    refine ⟨h, k_X8_look_90 hM.g (fun _ => k_X8_look_264) (fun q => absurd (by rw [hT.1, h4]; exact nI_le (by omega) (by omega)) q), Upf.rf, ?_⟩
    rw [runF_end (by omega), h4]; congr 1; omega
  | succ n ih =>
    intro j h hj hl hM hT h4
    have h250 := hT.2.1
    have hjl : j < B.length := by omega
    have hb := mtape_b hT j
    have ce : hI h (m + 15) (hI h m 24).toNatClampNeg = nI (B.getD j 0) := by rw [h4, nI_clamp (by omega)]; exact hT.2.2.2 j hjl
    have ent : ∀ {o : Option Value} {h' : PH}, (bI (isLB (B.getD j 0)) = 0 → J mX8_look (d + 1) 264 [some (.ref m)] [] h o h') → (¬ bI (isLB (B.getD j 0)) = 0 → J mX8_look (d + 1) 116 [some (.ref m)] [] h o h') → J mX8_look (d + 1) 90 [some (.ref m)] [] h o h' := fun k1 k2 => k_X8_look_90 hM.g (fun q => absurd q (by rw [hT.1, h4]; exact nI_ge hjl (by omega))) (fun _ => k_X8_look_101 hM.g hM.r6 hM.g6 (by rw [h4]; exact (vp_in_nI (by omega) (by omega))) (by rw [ce]; exact u_isLetter hb) (Or.inl rfl) k1 k2)
    cases hs : isLB (B.getD j 0) with
    | true =>
      have U : Upf (fun i k => i = m ∧ k = 24) h (setI h m 24 (hI h m 24 + (1 : Int32))) := Upf.set ⟨rfl, rfl⟩
      obtain ⟨h1, hk, hU1, h41⟩ := ih (j + 1) _ (by omega) (by omega) (hM.keep U) (hT.kp U (fun i k q _ => by omega) (fun i k q => by omega)) (by rw [hI_setI, if_pos ⟨rfl, rfl⟩, h4, nI_1])
      refine ⟨h1, ent (fun z => absurd z (by rw [hs]; decide)) (fun _ => k_X8_look_116 hM.g hk), U.tr hU1, ?_⟩
      rw [h41, runF_go (i := j) hjl hs]
    | false =>
      refine ⟨h, ent (fun _ => k_X8_look_264) (fun z => absurd (by rw [hs]; rfl) z), Upf.rf, ?_⟩
      rw [h4, runF_stop (i := j) hjl hs]
theorem v_figures {s : Nat} : ∀ n j (h : PH), B.length - j = n → s ≤ j → j ≤ B.length → ModH h m → MT h m B → hI h m 24 = nI j → hI h m 26 = nI s → hI h m 27 = nI (figV B s (j - s)) →
    ∃ h1, J mX8_look (d + 1) 149 [some (.ref m)] [] h none h1 ∧ Upf (fun i k => i = m ∧ (k = 24 ∨ k = 27)) h h1 ∧ hI h1 m 24 = nI (runF isDB B j) ∧ hI h1 m 27 = nI (figV B s (runF isDB B j - s)) := by
  intro n
  induction n with
  | zero =>
    intro j h hj hsj hl hM hT h4 h6 h7
    have h250 := hT.2.1
    refine ⟨h, k_X8_look_149 hM.g (fun _ => k_X8_look_264) (fun q => absurd (by rw [hT.1, h4]; exact nI_le (by omega) (by omega)) q), Upf.rf, ?_, ?_⟩
    · rw [runF_end (by omega), h4]; congr 1; omega
    · rw [runF_end (by omega), h7, show B.length = j by omega]
  | succ n ih =>
    intro j h hj hsj hl hM hT h4 h6 h7
    have h250 := hT.2.1
    have hjl : j < B.length := by omega
    have hb := mtape_b hT j
    have ce : hI h (m + 15) (hI h m 24).toNatClampNeg = nI (B.getD j 0) := by rw [h4, nI_clamp (by omega)]; exact hT.2.2.2 j hjl
    have ent : ∀ {o : Option Value} {h' : PH}, (bI (isDB (B.getD j 0)) = 0 → J mX8_look (d + 1) 264 [some (.ref m)] [] h o h') → (¬ bI (isDB (B.getD j 0)) = 0 → J mX8_look (d + 1) 175 [some (.ref m)] [] h o h') → J mX8_look (d + 1) 149 [some (.ref m)] [] h o h' := fun k1 k2 => k_X8_look_149 hM.g (fun q => absurd q (by rw [hT.1, h4]; exact nI_ge hjl (by omega))) (fun _ => k_X8_look_160 hM.g hM.r6 hM.g6 (by rw [h4]; exact (vp_in_nI (by omega) (by omega))) (by rw [ce]; exact u_isDigit hb) (Or.inl rfl) k1 k2)
    cases hs : isDB (B.getD j 0) with
    | true =>
      have hd := of_decide_eq_true hs
      have go : ∀ v : Int32, v = nI (figV B s (j + 1 - s)) → ∃ h1, J mX8_look (d + 1) 215 [some (.ref m)] [.int v, .ref m] h none h1 ∧ Upf (fun i k => i = m ∧ (k = 24 ∨ k = 27)) h h1 ∧ hI h1 m 24 = nI (runF isDB B j) ∧ hI h1 m 27 = nI (figV B s (runF isDB B j - s)) := fun v ev => by
        have U : Upf (fun i k => i = m ∧ (k = 24 ∨ k = 27)) h (setI (setI h m 27 v) m 24 (hI (setI h m 27 v) m 24 + (1 : Int32))) := (Upf.set ⟨rfl, Or.inr rfl⟩).st ⟨rfl, Or.inl rfl⟩
        obtain ⟨h1, hk, hU1, h41, h42⟩ := ih (j + 1) _ (by omega) (by omega) (by omega) (hM.keep U) (hT.kp U (fun i k q _ => by omega) (fun i k q => by omega)) (by rw [hI_setI, if_pos ⟨rfl, rfl⟩, hI_setI, if_neg (by omega), h4, nI_1]) (by rw [U.ii (by omega)]; exact h6) (by rw [hI_setI, if_neg (by omega), hI_setI, if_pos ⟨rfl, rfl⟩, ev])
        exact ⟨h1, k_X8_look_215 hM.g hM.g hk, U.tr hU1, by rw [h41, runF_go (i := j) hjl hs], by rw [h42, runF_go (i := j) hjl hs]⟩
      have e3 : (3 : Int32) ≤ hI h m 24 - hI h m 26 ↔ 3 ≤ j - s := by rw [h4, h6, pk_sub hsj, show (3 : Int32) = nI 3 from rfl, nI_leI (by omega) (by omega)]
      by_cases h3 : 3 ≤ j - s
      · obtain ⟨h1, a, b⟩ := go (1000 : Int32) (by unfold figV; rw [if_neg (by omega)]; rfl)
        exact ⟨h1, ent (fun z => absurd z (by rw [hs]; decide)) (fun _ => k_X8_look_175 hM.g (fun _ => k_X8_look_212 a) (fun z => absurd (e3.mpr h3) z)), b⟩
      · obtain ⟨h1, a, b⟩ := go (hI h m 27 * (10 : Int32) + hI h (m + 15) (hI h m 24).toNatClampNeg - (48 : Int32)) (by
          rw [h7, ce, show (10 : Int32) = nI 10 from rfl, show (48 : Int32) = nI 48 from rfl, pk_mul, nI_add, pk_sub (by omega)]
          unfold figV
          rw [if_pos (by omega), if_pos (by omega), show j + 1 - s = (j - s) + 1 by omega, valF_succ, show s + (j - s) = j by omega]
          congr 1
          omega)
        exact ⟨h1, ent (fun z => absurd z (by rw [hs]; decide)) (fun _ => k_X8_look_175 hM.g (fun z => absurd (e3.mp z) h3) (fun _ => k_X8_look_189 hM.g hM.r6 hM.g6 (by rw [h4]; exact (vp_in_nI (by omega) (by omega))) a)), b⟩
    | false =>
      refine ⟨h, ent (fun _ => k_X8_look_264) (fun z => absurd (by rw [hs]; rfl) z), Upf.rf, ?_, ?_⟩
      · rw [h4, runF_stop (i := j) hjl hs]
      · rw [h7, runF_stop (i := j) hjl hs]
theorem u_look {i : Nat} (hM : ModH h m) (hT : MT h m B) (h4 : hI h m 24 = nI i) (hi : i ≤ B.length) : ∃ h', JMt mX8_look none (d + 1) [.ref m] h none h' ∧ Upf (fun i k => i = m ∧ 24 ≤ k ∧ k ≤ 27) h h' ∧ LookR h' m B (tokF B i) := by
  obtain ⟨h1, hk1, hU1, h41⟩ := v_skip (d := d) _ i h rfl hi hM hT h4
  have hM1 := hM.keep hU1
  have hT1 := hT.kp hU1 (fun i k q _ => by omega) (fun i k q => by omega)
  have h250 := hT.2.1
  have hb := runF_b (f := fun b => decide (b = 32)) hi
  unfold tokF
  generalize runF (fun b => decide (b = 32)) B i = s at *
  generalize hz2 : setI (setI h1 m 26 (hI h1 m 24)) m 27 (0 : Int32) = h2
  have hU2 : Upf (fun i k => i = m ∧ (k = 26 ∨ k = 27)) h1 h2 := by rw [← hz2]; exact (Upf.set ⟨rfl, Or.inl rfl⟩).st ⟨rfl, Or.inr rfl⟩
  have hM2 := hM1.keep hU2
  have hT2 := hT1.kp hU2 (fun i k q _ => by omega) (fun i k q => by omega)
  have h42 : hI h2 m 24 = nI s := by rw [hU2.ii (by omega), h41]
  have h32 : hI h2 m 26 = nI s := by rw [← hz2, hI_setI, if_neg (by omega), hI_setI, if_pos ⟨rfl, rfl⟩, h41]
  have h72 : hI h2 m 27 = 0 := by rw [← hz2, hI_setI, if_pos ⟨rfl, rfl⟩]
  have U12 : Upf (fun i k => i = m ∧ 24 ≤ k ∧ k ≤ 27) h h2 := (hU1.mono (fun i k q => by omega)).tr (hU2.mono (fun i k q => by omega))
  have ent0 : ∀ {o : Option Value} {h' : PH}, RetT none o → (¬ s = B.length → J mX8_look (d + 1) 70 [some (.ref m)] [] h2 o h') → (s = B.length → J mX8_look (d + 1) 62 [some (.ref m)] [] h2 o h') → JMt mX8_look none (d + 1) [.ref m] h o h' := fun rt k1 k2 => jm mi_X8_look (Nat.le_of_ble_eq_true rfl) rt rfl (hk1 _ _ (k_X8_look_38 hM1.g (fun z => by rw [hz2] at z ⊢; exact k1 (fun e => z (by rw [h42, hT2.1, e]))) (fun z => by rw [hz2] at z ⊢; exact k2 (by rw [h42, hT2.1] at z; exact (nI_eq (by omega) (by omega)).mp z))))
  by_cases hse : s = B.length
  · rw [if_pos hse]
    refine ⟨setI h2 m 25 0, ent0 rfl (fun z => absurd hse z) (fun _ => k_X8_look_62 hM2.g k_X8_look_264), U12.st (by omega), ?_, ?_, ?_, fun z => (by cases z)⟩
    · rw [hI_setI, if_neg (by omega), h42, hse]
    · rw [hI_setI, if_pos ⟨rfl, rfl⟩]; rfl
    · rw [hI_setI, if_neg (by omega), h32, hse]
  · rw [if_neg hse]
    have hsl : s < B.length := by omega
    have hbs := mtape_b hT s
    have ce : hI h2 (m + 15) (hI h2 m 24).toNatClampNeg = nI (B.getD s 0) := by rw [h42, nI_clamp (by omega)]; exact hT2.2.2.2 s hsl
    have vs : vp_in (hI h2 m 24) 250 := by rw [h42]; exact (vp_in_nI (by omega) (by omega))
    have ent : ∀ {o : Option Value} {h' : PH}, RetT none o → (bI (isLB (B.getD s 0)) = 0 → J mX8_look (d + 1) 129 [some (.ref m)] [] h2 o h') → (¬ bI (isLB (B.getD s 0)) = 0 → J mX8_look (d + 1) 85 [some (.ref m)] [] h2 o h') → JMt mX8_look none (d + 1) [.ref m] h o h' := fun rt k1 k2 => ent0 rt (fun _ => k_X8_look_70 hM2.g hM2.r6 hM2.g6 vs (by rw [ce]; exact u_isLetter hbs) (Or.inl rfl) k1 k2) (fun z => absurd z hse)
    cases hLs : isLB (B.getD s 0) with
    | true =>
      rw [if_pos rfl]
      have hU3 : Upf (fun i k => i = m ∧ k = 25) h2 (setI h2 m 25 1) := Upf.set ⟨rfl, rfl⟩
      obtain ⟨h3, hJ, hU4, g1⟩ := v_letters (d := d) _ s (setI h2 m 25 1) rfl (by omega) (hM2.keep hU3) (hT2.kp hU3 (fun i k q _ => by omega) (fun i k q => by omega)) (by rw [hI_setI, if_neg (by omega), h42])
      refine ⟨h3, ent rfl (fun q => absurd q (by rw [hLs]; decide)) (fun _ => k_X8_look_85 hM2.g hJ), (U12.tr (hU3.mono (fun i k q => by omega))).tr (hU4.mono (fun i k q => by omega)), g1, ?_, ?_, fun z => (by cases z)⟩
      · rw [hU4.ii (by omega), hI_setI, if_pos ⟨rfl, rfl⟩]; rfl
      · rw [hU4.ii (by omega), hI_setI, if_neg (by omega), h32]
    | false =>
      rw [if_neg (by decide)]
      have nl : ∀ {o : Option Value} {h' : PH}, RetT none o → (bI (isDB (B.getD s 0)) = 0 → J mX8_look (d + 1) 231 [some (.ref m)] [] h2 o h') → (¬ bI (isDB (B.getD s 0)) = 0 → J mX8_look (d + 1) 144 [some (.ref m)] [] h2 o h') → JMt mX8_look none (d + 1) [.ref m] h o h' := fun rt k1 k2 => ent rt (fun _ => k_X8_look_129 hM2.g hM2.r6 hM2.g6 vs (by rw [ce]; exact u_isDigit hbs) (Or.inl rfl) k1 k2) (fun q => absurd (by rw [hLs]; rfl) q)
      cases hDs : isDB (B.getD s 0) with
      | true =>
        rw [if_pos rfl]
        have hU3 : Upf (fun i k => i = m ∧ k = 25) h2 (setI h2 m 25 2) := Upf.set ⟨rfl, rfl⟩
        obtain ⟨h3, hJ, hU4, g1, g2⟩ := v_figures (d := d) (s := s) _ s (setI h2 m 25 2) rfl (Nat.le_refl _) (by omega) (hM2.keep hU3) (hT2.kp hU3 (fun i k q _ => by omega) (fun i k q => by omega)) (by rw [hI_setI, if_neg (by omega), h42]) (by rw [hI_setI, if_neg (by omega), h32]) (by rw [hI_setI, if_neg (by omega), h72, Nat.sub_self]; rfl)
        refine ⟨h3, nl rfl (fun q => absurd q (by rw [hDs]; decide)) (fun _ => k_X8_look_144 hM2.g hJ), (U12.tr (hU3.mono (fun i k q => by omega))).tr (hU4.mono (fun i k q => by omega)), g1, ?_, ?_, fun _ => g2⟩
        · rw [hU4.ii (by omega), hI_setI, if_pos ⟨rfl, rfl⟩]; rfl
        · rw [hU4.ii (by omega), hI_setI, if_neg (by omega), h32]
      | false =>
        rw [if_neg (by decide)]
        have fin : ∀ v : Nat, v ≠ 2 → LookR (setI (setI h2 m 25 (nI v)) m 24 (hI (setI h2 m 25 (nI v)) m 24 + (1 : Int32))) m B (v, s, s + 1) := fun v hv => by
          refine ⟨?_, ?_, ?_, fun z => absurd z hv⟩
          · rw [hI_setI, if_pos ⟨rfl, rfl⟩, hI_setI, if_neg (by omega), h42, nI_1]
          · rw [hI_setI, if_neg (by omega), hI_setI, if_pos ⟨rfl, rfl⟩]
          · rw [hI_setI, if_neg (by omega), hI_setI, if_neg (by omega), h32]
        by_cases h59 : B.getD s 0 = 59
        · rw [if_pos h59]
          exact ⟨_, nl rfl (fun _ => k_X8_look_231 hM2.g hM2.r6 hM2.g6 vs (fun q => absurd (by rw [ce, h59]; rfl) q) (fun _ => k_X8_look_246 (k_X8_look_251 (s0 := 3) hM2.g hM2.g k_X8_look_264))) (fun q => absurd (by rw [hDs]; rfl) q), (U12.st (by omega)).st (by omega), fin 3 (by omega)⟩
        · rw [if_neg h59]
          exact ⟨_, nl rfl (fun _ => k_X8_look_231 hM2.g hM2.r6 hM2.g6 vs (fun _ => k_X8_look_250 (k_X8_look_251 (s0 := 4) hM2.g hM2.g k_X8_look_264)) (fun q => absurd (by rw [ce] at q; exact (nI_eq (a := B.getD s 0) (b := 59) (by omega) (by omega)).mp q) h59)) (fun q => absurd (by rw [hDs]; rfl) q), (U12.st (by omega)).st (by omega), fin 4 (by omega)⟩
theorem u_wrong (hM : ModH h m) : JMt mX8_wrong (some .boolean) d [.ref m] h (some (.int (bI false))) (setI h m 28 (hI h m 26)) := jm mi_X8_wrong (Nat.le_of_ble_eq_true rfl) rB rfl (k_X8_wrong_0 hM.g)
theorem v_isWord {k : Tok} {i : Nat} (hi : i < 12) (hM : ModH h m) (hT : MT h m B) (hR : LookR h m B k) (hk : tokOK B k) (h1 : k.1 = 1) (h2 : k.2.2 - k.2.1 = lenS i) : ∀ n j, lenS i - j = n → j ≤ lenS i → (∀ c, c < j → nI (B.getD (k.2.1 + c) 0) = chr i c) → J mX8_isWord (d + 4) 28 [some (.ref m), some (.retAddr (6 + i)), some (.int (nI j))] [] h (some (.int (bI (wordB B k i)))) h := by
  obtain ⟨r7, r5, r6, -⟩ := hR
  obtain ⟨k1, k2, k3, k4, k5⟩ := hk
  have h250 := hT.2.1
  have h6 := lenS_le i hi
  intro n
  induction n with
  | zero =>
    intro j hj hl hc
    rw [show wordB B k i = true from decide_eq_true ⟨h1, h2, fun c hcl => hc c (by omega)⟩]
    exact k_X8_isWord_T_28 (t_length (d := d + 2) hi) (Or.inl rfl) hi (fun _ => k_X8_isWord_T_63) (fun z => absurd (nI_le (by omega) (by omega)) z)
  | succ n ih =>
    intro j hj hl hc
    have hjl : j < lenS i := by omega
    have hlt : k.2.1 + j < B.length := by omega
    have ce : hI h (m + 15) (hI h m 26 + nI j).toNatClampNeg = nI (B.getD (k.2.1 + j) 0) := by rw [r6, nI_add, nI_clamp (by omega)]; exact hT.2.2.2 _ hlt
    refine k_X8_isWord_T_28 (t_length (d := d + 2) hi) (Or.inl rfl) hi (fun z => absurd z (nI_ge hjl (by omega))) (fun _ => k_X8_isWord_T_36 hM.g hM.r6 hM.g6 (by rw [r6, nI_add]; exact (vp_in_nI (by omega) (by omega))) (t_charAt (d := d) hi hjl) (Or.inl rfl) hi (fun z => k_X8_isWord_T_57 ?_) (fun z => ?_))
    · rw [ce] at z
      rw [nI_1]
      refine ih (j + 1) (by omega) (by omega) (fun c hcl => ?_)
      by_cases e : c = j
      · rw [e]; exact z
      · exact hc c (by omega)
    · rw [ce] at z
      rw [show wordB B k i = false from decide_eq_false (fun y => z (y.2.2 j hjl))]
      exact k_X8_isWord_T_55
theorem u_isWord {k : Tok} {i : Nat} (hi : i < 12) (hM : ModH h m) (hT : MT h m B) (hR : LookR h m B k) (hk : tokOK B k) : JMt mX8_isWord (some .boolean) (d + 4) [.ref m, .retAddr (6 + i)] h (some (.int (bI (wordB B k i)))) h := by
  have hR0 := hR
  obtain ⟨r7, r5, r6, -⟩ := hR
  have hk0 := hk
  obtain ⟨k1, k2, k3, k4, k5⟩ := hk
  have h250 := hT.2.1
  have h6 := lenS_le i hi
  have no : ∀ e : wordB B k i = false, J mX8_isWord (d + 4) 24 [some (.ref m), some (.retAddr (6 + i)), none] [] h (some (.int (bI (wordB B k i)))) h := fun e => by rw [e]; exact k_X8_isWord_T_24
  refine jm mi_X8_isWord (Nat.le_of_ble_eq_true rfl) rB rfl (k_X8_isWord_T_0 hM.g (fun z => no ?_) (fun z => k_X8_isWord_T_8 hM.g (t_length (d := d + 2) hi) (Or.inl rfl) hi (fun z2 => ?_) (fun z2 => no ?_)))
  · rw [r5] at z
    exact decide_eq_false (fun y => z (by rw [y.1]; rfl))
  · rw [r5, show (1 : Int32) = nI 1 from rfl, nI_eq (by omega) (by omega)] at z
    rw [r7, r6, pk_sub k1, nI_eq (by omega) (by omega)] at z2
    exact k_X8_isWord_T_26 (v_isWord (d := d) hi hM hT hR0 hk0 z z2 _ 0 rfl (Nat.zero_le _) (fun c hc => absurd hc (Nat.not_lt_zero c)))
  · rw [r7, r6, pk_sub k1, nI_eq (by omega) (by omega)] at z2
    exact decide_eq_false (fun y => z2 y.2.1)
/-- the same words stand twice -/
theorem chr6 : ∀ i, i < 6 → lenS (6 + i) = lenS i ∧ ∀ j, j < lenS i → chr (6 + i) j = chr i j := by decide +kernel
theorem word6 {k : Tok} {i : Nat} (hi : i < 6) : wordB B k (6 + i) = wordB B k i := by
  obtain ⟨e1, e2⟩ := chr6 i hi
  refine decide_eq_decide.mpr ?_
  rw [e1]
  exact ⟨fun ⟨a, b, c⟩ => ⟨a, b, fun j hj => (c j hj).trans (e2 j hj)⟩, fun ⟨a, b, c⟩ => ⟨a, b, fun j hj => (c j hj).trans (e2 j hj).symm⟩⟩
/-- a number between two bounds -/
def numG (B : List Nat) (k : Tok) (lo hi : Int) : Option Nat := match numF B k with
  | none => none
  | some v => if lo ≤ (v : Int) ∧ (v : Int) ≤ hi then some v else none
theorem numG_fig {k : Tok} {lo hi : Int} (hk : tokOK B k) (h2 : k.1 = 2) (hh : hi < 1000) : inB (nI (figV B k.2.1 (k.2.2 - k.2.1))) lo hi = (numG B k lo hi).isSome ∧ ∀ v, numG B k lo hi = some v → figV B k.2.1 (k.2.2 - k.2.1) = v := by
  unfold numG numF figV
  by_cases h3 : k.2.2 - k.2.1 ≤ 3
  · have hv := numF_lt (B := B) (k := k) hk (if_pos ⟨h2, h3⟩)
    rw [if_pos h3, if_pos ⟨h2, h3⟩]
    dsimp only
    unfold inB
    rw [nI_toInt (by omega)]
    by_cases hb : lo ≤ ((valF B k.2.1 (k.2.2 - k.2.1) : Nat) : Int) ∧ ((valF B k.2.1 (k.2.2 - k.2.1) : Nat) : Int) ≤ hi
    · rw [if_pos hb, decide_eq_true hb]
      exact ⟨rfl, fun v e => Option.some.inj e⟩
    · rw [if_neg hb, decide_eq_false hb]
      exact ⟨rfl, fun v e => by cases e⟩
  · rw [if_neg h3, if_neg (fun z => h3 z.2)]
    unfold inB
    rw [nI_toInt (by omega)]
    exact ⟨decide_eq_false (by omega), fun v e => by cases e⟩
theorem u_numberY {k : Tok} {i v : Nat} {lo hi : Int32} (hk : tokOK B k) (hi5 : i < 5) (hh : hi.toInt < 1000) (hM : ModH h m) (hT : MT h m B) (hR : LookR h m B k) (e : numG B k lo.toInt hi.toInt = some v) : ∃ h1, JMt mX8_number (some .boolean) (d + 2) [.ref m, .int (nI i), .int lo, .int hi] h (some (.int (bI true))) h1 ∧ Upf (fR m) h h1 ∧ LookR h1 m B (tokF B k.2.2) ∧ hI h1 (m + 23) i = nI v ∧ ∀ j, j ≠ i → hI h1 (m + 23) j = hI h (m + 23) j := by
  have h2 : k.1 = 2 := by
    cases hq : numF B k with
    | none => unfold numG at e; rw [hq] at e; cases e
    | some w =>
      unfold numF at hq
      split at hq
      · rename_i z; exact z.1
      · cases hq
  obtain ⟨n1, n2⟩ := numG_fig (lo := lo.toInt) (hi := hi.toInt) hk h2 hh
  have hf := hR.2.2.2 h2
  have ci : (nI i).toNatClampNeg = i := nI_clamp (by omega)
  have U : Upf (fun a b => a = m + 23 ∧ b = i) h (setI h (m + 23) (nI i).toNatClampNeg (hI h m 27)) := Upf.set ⟨rfl, ci⟩
  obtain ⟨h1, a1, a2, a3⟩ := u_look (d := d) (i := k.2.2) (hM.keep U) (hT.kp U (fun i k q _ => by omega) (fun i k q => by omega)) (by rw [U.ii (by omega)]; exact hR.1) hk.2.1
  refine ⟨h1, jm mi_X8_number (Nat.le_of_ble_eq_true rfl) rB rfl (k_X8_number_0 hM.g (fun z => absurd (by rw [hR.2.1, h2]; rfl) z) (fun _ => k_X8_number_8 hM.g (t_inI (tr64 _) (tr64 _)) (Or.inl rfl) (fun _ => k_X8_number_28 hM.g hM.r29 hM.g29 (vp_in_nI (by omega) (by omega)) a1 (Or.inl a2.1)) (fun z => absurd z (by rw [hf, n1, e]; exact (show ¬ bI true = 0 by decide))))), (U.mono (fun a b q => by unfold fR; omega)).tr (a2.mono (fun a b q => by unfold fR; omega)), a3, ?_, fun j hj => ?_⟩
  · rw [a2.ii (by omega), ci, hI_setI, if_pos ⟨rfl, rfl⟩, hf, n2 v e]
  · rw [a2.ii (by omega), U.ii (by omega)]
theorem u_numberN {k : Tok} {i : Int32} {lo hi : Int32} (hk : tokOK B k) (hh : hi.toInt < 1000) (hM : ModH h m) (hR : LookR h m B k) (e : numG B k lo.toInt hi.toInt = none) : ∃ h1, JMt mX8_number (some .boolean) (d + 2) [.ref m, .int i, .int lo, .int hi] h (some (.int (bI false))) h1 ∧ Upf (fR m) h h1 ∧ hI h1 m 28 = nI k.2.1 := by
  have U : Upf (fR m) h (setI h m 28 (hI h m 26)) := Upf.set (by unfold fR; omega)
  refine ⟨_, ?_, U, by rw [hI_setI, if_pos ⟨rfl, rfl⟩]; exact hR.2.2.1⟩
  by_cases h2 : k.1 = 2
  · obtain ⟨n1, n2⟩ := numG_fig (lo := lo.toInt) (hi := hi.toInt) hk h2 hh
    have hf := hR.2.2.2 h2
    exact jm mi_X8_number (Nat.le_of_ble_eq_true rfl) rB rfl (k_X8_number_0 hM.g (fun z => absurd (by rw [hR.2.1, h2]; rfl) z) (fun _ => k_X8_number_8 hM.g (t_inI (tr64 _) (tr64 _)) (Or.inl rfl) (fun z => absurd (by rw [hf, n1, e]; rfl) z) (fun _ => k_X8_number_23 (u_wrong hM) (Or.inl rfl) hM.g)))
  · exact jm mi_X8_number (Nat.le_of_ble_eq_true rfl) rB rfl (k_X8_number_0 hM.g (fun _ => k_X8_number_23 (u_wrong hM) (Or.inl rfl) hM.g) (fun z => absurd ((nI_eq (b := 2) (by have := hk.2.2.2.2; omega) (by omega)).mp (hR.2.1.symm.trans z)) h2))
end RL
