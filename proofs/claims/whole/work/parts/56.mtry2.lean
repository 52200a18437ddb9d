/-! questions of the reference that try towers in thought, 2 -/
section TR
variable {d : Nat} {h : PH} {m : Nat} {ko to : Option Nat} {T : TS}
theorem galI {P : List Pers} {L : List Nat} {z : Int} (h1 : -1 ≤ z) (h2 : z ≤ 9) : oI (galeF P L) ≤ sI z ↔ galeZ P L ≤ z := by
  have := galeZ_b P L
  rw [galeZ_I, sI_le (by omega) (by omega) (by omega) (by omega)]
theorem v_fittest {σ : WS} (ho : okW σ) : ∀ n j (h : PH) (s : Int × Int), σ.1.length - j = n → j ≤ σ.1.length → (-1 ≤ s.2 ∧ s.2 ≤ 9) → ModH h m → MB h m σ →
    ∃ h1, J mX8_fittest (d + 8) 6 [some (.ref m), some (.int (sI s.1)), some (.int (sI s.2)), some (.int (nI j)), none] [] h (some (.int (sI (itF (fitS σ) n j s).1))) h1 ∧ Upf (fV m) h h1 ∧ MB h1 m σ := by
  obtain ⟨o1, o2, o3, o4, o5, o6⟩ := ho
  intro n
  induction n with
  | zero =>
    intro j h s hj hl hs hM hB
    have n8 := hB.n8
    exact ⟨h, k_X8_fittest_6 hM.g (fun _ => k_X8_fittest_64) (fun q => absurd (by rw [hB.n]; exact nI_le (by omega) (by omega)) q), Upf.rf, hB⟩
  | succ n ih =>
    intro j h s hj hl hs hM hB
    have n8 := hB.n8
    have l8 := hB.l8
    have hjl : j < σ.1.length := by omega
    have ent : ∀ {o : Option Value} {h' : PH}, J mX8_fittest (d + 8) 14 [some (.ref m), some (.int (sI s.1)), some (.int (sI s.2)), some (.int (nI j)), none] [] h o h' → J mX8_fittest (d + 8) 6 [some (.ref m), some (.int (sI s.1)), some (.int (sI s.2)), some (.int (nI j)), none] [] h o h' := fun kk => k_X8_fittest_6 hM.g (fun q => absurd q (by rw [hB.n]; exact nI_ge hjl (by omega))) (fun _ => kk)
    have hin := u_isIn (d := d + 6) (x := j) hM hB o1 (by omega)
    rw [itF]
    cases hk : (courseF σ.2.1 j 0).isSome with
    | true =>
      rw [hk] at hin
      have e : fitS σ j s = s := by unfold fitS; rw [if_pos hk]
      rw [e]
      obtain ⟨h1, b1, b2, b3⟩ := ih (j + 1) h s (by omega) (by omega) hs hM hB
      have le : (-1 : Int32) ≤ sI s.2 := by rw [neg1_sI, sI_le (by omega) (by omega) (by omega) (by omega)]; exact hs.1
      refine ⟨h1, ent (k_X8_fittest_14 hin (Or.inl rfl) hM.g (fun z => absurd z (by decide)) (fun _ => k_X8_fittest_22 (k_X8_fittest_31 (fun _ => k_X8_fittest_43 (k_X8_fittest_44 (fun _ => k_X8_fittest_56 (k_X8_fittest_57 ?_)) (fun z => absurd le z))) (fun z => absurd le z)))), b2, b3⟩
      rw [nI_1]
      exact b1
    | false =>
      rw [hk] at hin
      have hll := not_in_len o2 o1 hjl hk
      obtain ⟨h2, g1, g2, g3⟩ := u_galeWith (d := d) (p := j) hM hB o1 hjl (by omega)
      have gb := galeZ_b σ.1 (insL σ.2.1 σ.2.1.length j)
      have gi := galI (P := σ.1) (L := insL σ.2.1 σ.2.1.length j) hs.1 hs.2
      have e : fitS σ j s = if s.2 < galeZ σ.1 (insL σ.2.1 σ.2.1.length j) then ((j : Int), galeZ σ.1 (insL σ.2.1 σ.2.1.length j)) else s := by unfold fitS; rw [if_neg (by rw [hk]; decide)]
      by_cases hg : s.2 < galeZ σ.1 (insL σ.2.1 σ.2.1.length j)
      · rw [if_pos hg] at e
        rw [e]
        obtain ⟨h1, b1, b2, b3⟩ := ih (j + 1) h2 ((j : Int), galeZ σ.1 (insL σ.2.1 σ.2.1.length j)) (by omega) (by omega) gb (hM.keep g2) g3
        have nle : ¬ oI (galeF σ.1 (insL σ.2.1 σ.2.1.length j)) ≤ sI s.2 := fun z => by have := gi.mp z; omega
        refine ⟨h1, ent (k_X8_fittest_14 hin (Or.inl rfl) hM.g (fun _ => k_X8_fittest_26 g1 (Or.inl g2.1) hM.g (k_X8_fittest_31 (fun z => absurd z nle) (fun _ => k_X8_fittest_39 (k_X8_fittest_44 (fun z => absurd z nle) (fun _ => k_X8_fittest_51 (k_X8_fittest_57 ?_)))))) (fun z => absurd rfl z)), g2.tr b2, b3⟩
        rw [nI_1, galeZ_I, nI_sI j]
        exact b1
      · rw [if_neg hg] at e
        rw [e]
        obtain ⟨h1, b1, b2, b3⟩ := ih (j + 1) h2 _ (by omega) (by omega) hs (hM.keep g2) g3
        have le : oI (galeF σ.1 (insL σ.2.1 σ.2.1.length j)) ≤ sI s.2 := gi.mpr (by omega)
        refine ⟨h1, ent (k_X8_fittest_14 hin (Or.inl rfl) hM.g (fun _ => k_X8_fittest_26 g1 (Or.inl g2.1) hM.g (k_X8_fittest_31 (fun _ => k_X8_fittest_43 (k_X8_fittest_44 (fun _ => k_X8_fittest_56 (k_X8_fittest_57 ?_)) (fun z => absurd le z))) (fun z => absurd le z))) (fun z => absurd rfl z)), g2.tr b2, b3⟩
        rw [nI_1]
        exact b1
theorem m_fittest (hS : MS h m ko to T) : RfQ mX8_fittest (d + 10) [.ref m] h m ko to T (q_fittest T.1) := by
  have hS0 := hS
  obtain ⟨hT, hM, hB, hTp, hRf, hSh, hK, hTr⟩ := hS
  obtain ⟨o1, o2, o3, o4, o5, o6⟩ := hT.1
  have n8 := hB.n8
  have l8 := hB.l8
  obtain ⟨h1, a1, a2, a3⟩ := v_fittest (m := m) (d := d + 2) hT.1 _ 0 h (-1, -1) rfl (Nat.zero_le _) ⟨by decide, by decide⟩ hM hB
  exact mqV hS0 ⟨h1, jm mi_X8_fittest (Nat.le_of_ble_eq_true rfl) ⟨.int, rfl, rfl⟩ rfl (k_X8_fittest_0 a1), a2.mono (fun i k q => Or.inl q), a3⟩
theorem v_lighter {σ : WS} (hL : inP σ.1 σ.2.1) : ∀ n j (h : PH) (s : Int × Int), σ.2.1.length - j = n → j ≤ σ.2.1.length → (-1 ≤ s.2 ∧ s.2 ≤ 9) → ModH h m → MB h m σ →
    ∃ h1, J mX8_lighter (d + 7) 6 [some (.ref m), some (.int (sI s.1)), some (.int (sI s.2)), some (.int (nI j)), none, none] [] h (some (.int (sI (itF (ligS σ) n j s).1))) h1 ∧ Upf (fV m) h h1 ∧ MB h1 m σ := by
  intro n
  induction n with
  | zero =>
    intro j h s hj hl hs hM hB
    have l8 := hB.l8
    exact ⟨h, k_X8_lighter_6 hM.g (fun _ => k_X8_lighter_66) (fun q => absurd (by rw [hB.sz]; exact nI_le (by omega) (by omega)) q), Upf.rf, hB⟩
  | succ n ih =>
    intro j h s hj hl hs hM hB
    have n8 := hB.n8
    have l8 := hB.l8
    have hjl : j < σ.2.1.length := by omega
    obtain ⟨h2, a1, a2, a3⟩ := u_takes (d := d + 6) hM hB hjl
    have hM2 := hM.keep a2
    obtain ⟨h3, g1, g2, g3⟩ := u_galeNow (d := d) hM2 a3 (delL_in hL)
    have hM3 := hM2.keep g2
    obtain ⟨h4, c1, c2, c3⟩ := u_puts (d := d + 6) (k := j) (x := σ.2.1.getD j 0) hM3 g3 (by show j ≤ (delL σ.2.1 j).length; rw [delL_len hjl]; omega) (by show (delL σ.2.1 j).length < 8; rw [delL_len hjl]; omega)
    have c3 : MB h4 m (σ.1, insL (delL σ.2.1 j) j (σ.2.1.getD j 0), σ.2.2) := c3
    rw [ins_del hjl] at c3
    have hM4 := hM3.keep c2
    have U : Upf (fV m) h h4 := ((a2.mono (fun i k => fPV)).tr (g2.mono (fun i k => fGV))).tr (c2.mono (fun i k => fPV))
    have gb := galeZ_b σ.1 (delL σ.2.1 j)
    have gi := galI (P := σ.1) (L := delL σ.2.1 j) hs.1 hs.2
    have ent : ∀ {o : Option Value} {h' : PH}, (oI (galeF σ.1 (delL σ.2.1 j)) ≤ sI s.2 → J mX8_lighter (d + 7) 45 [some (.ref m), some (.int (sI s.1)), some (.int (sI s.2)), some (.int (nI j)), some (.int (nI (σ.2.1.getD j 0))), some (.int (oI (galeF σ.1 (delL σ.2.1 j))))] [] h4 o h') → (¬ oI (galeF σ.1 (delL σ.2.1 j)) ≤ sI s.2 → J mX8_lighter (d + 7) 40 [some (.ref m), some (.int (sI s.1)), some (.int (sI s.2)), some (.int (nI j)), some (.int (nI (σ.2.1.getD j 0))), some (.int (oI (galeF σ.1 (delL σ.2.1 j))))] [] h4 o h') → J mX8_lighter (d + 7) 6 [some (.ref m), some (.int (sI s.1)), some (.int (sI s.2)), some (.int (nI j)), none, none] [] h o h' := fun k1 k2 => k_X8_lighter_6 hM.g (fun q => absurd q (by rw [hB.sz]; exact nI_ge hjl (by omega))) (fun _ => k_X8_lighter_14 a1 (Or.inl a2.1) hM.g g1 (Or.inl g2.1) hM2.g c1 (Or.inl c2.1) hM3.g k1 k2)
    rw [itF]
    have e : ligS σ j s = if s.2 < galeZ σ.1 (delL σ.2.1 j) then ((σ.2.1.getD j 0 : Int), galeZ σ.1 (delL σ.2.1 j)) else s := rfl
    by_cases hg : s.2 < galeZ σ.1 (delL σ.2.1 j)
    · rw [if_pos hg] at e
      rw [e]
      obtain ⟨h1, b1, b2, b3⟩ := ih (j + 1) h4 ((σ.2.1.getD j 0 : Int), galeZ σ.1 (delL σ.2.1 j)) (by omega) (by omega) gb hM4 c3
      have nle : ¬ oI (galeF σ.1 (delL σ.2.1 j)) ≤ sI s.2 := fun z => by have := gi.mp z; omega
      refine ⟨h1, ent (fun z => absurd z nle) (fun _ => k_X8_lighter_40 (k_X8_lighter_46 (fun z => absurd z nle) (fun _ => k_X8_lighter_53 (k_X8_lighter_59 ?_)))), U.tr b2, b3⟩
      rw [nI_1, galeZ_I, nI_sI (σ.2.1.getD j 0)]
      exact b1
    · rw [if_neg hg] at e
      rw [e]
      obtain ⟨h1, b1, b2, b3⟩ := ih (j + 1) h4 _ (by omega) (by omega) hs hM4 c3
      have le : oI (galeF σ.1 (delL σ.2.1 j)) ≤ sI s.2 := gi.mpr (by omega)
      refine ⟨h1, ent (fun _ => k_X8_lighter_45 (k_X8_lighter_46 (fun _ => k_X8_lighter_58 (k_X8_lighter_59 ?_)) (fun z => absurd le z))) (fun z => absurd le z), U.tr b2, b3⟩
      rw [nI_1]
      exact b1
theorem m_lighter (hS : MS h m ko to T) : RfQ mX8_lighter (d + 10) [.ref m] h m ko to T (q_lighter T.1) := by
  have hS0 := hS
  obtain ⟨hT, hM, hB, hTp, hRf, hSh, hK, hTr⟩ := hS
  obtain ⟨o1, o2, o3, o4, o5, o6⟩ := hT.1
  have n8 := hB.n8
  have l8 := hB.l8
  obtain ⟨h1, a1, a2, a3⟩ := v_lighter (m := m) (d := d + 3) o1 _ 0 h (-1, -1) rfl (Nat.zero_le _) ⟨by decide, by decide⟩ hM hB
  exact mqV hS0 ⟨h1, jm mi_X8_lighter (Nat.le_of_ble_eq_true rfl) ⟨.int, rfl, rfl⟩ rfl (k_X8_lighter_0 a1), a2.mono (fun i k q => Or.inl q), a3⟩
theorem m_shifted {a b : Int32} (hS : MS h m ko to T) : RfQ mX8_shifted (d + 10) [.ref m, .int a, .int b] h m ko to T (q_shifted T.1 a b) := by
  have hS0 := hS
  obtain ⟨hT, hM, hB, hTp, hRf, hSh, hK, hTr⟩ := hS
  obtain ⟨o1, o2, o3, o4, o5, o6⟩ := hT.1
  have n8 := hB.n8
  have l8 := hB.l8
  have hi : ∀ c : Int32, JMt mX8_in (some .boolean) (d + 9) [.long c.toInt64, .long (0 : Int64), .long ((hI h m 20 - (1 : Int32)).toInt64)] h (some (.int (bI (inB c 0 ((T.1.2.1.length : Int) - 1))))) h := fun c => by
    rw [hB.sz]; exact t_inI rfl (nI_pre1 (by omega))
  unfold q_shifted
  cases ha : inB a 0 ((T.1.2.1.length : Int) - 1) with
  | false =>
    have ha' := of_decide_eq_false ha
    rw [if_neg (by omega)]
    exact mqR (k := 0) (by omega) hS0 (fun h1 r e => jm mi_X8_shifted (Nat.le_of_ble_eq_true rfl) ⟨.int, rfl, rfl⟩ rfl (k_X8_shifted_0 hM.g (hi a) (Or.inl rfl) (fun _ => k_X8_shifted_32 r (Or.inl e) hM.g) (fun z => absurd z (by rw [ha]; decide))))
  | true =>
    have ha' := of_decide_eq_true ha
    cases hb : inB b 0 ((T.1.2.1.length : Int) - 1) with
    | false =>
      have hb' := of_decide_eq_false hb
      rw [if_neg (by omega)]
      exact mqR (k := 0) (by omega) hS0 (fun h1 r e => jm mi_X8_shifted (Nat.le_of_ble_eq_true rfl) ⟨.int, rfl, rfl⟩ rfl (k_X8_shifted_0 hM.g (hi a) (Or.inl rfl) (fun z => absurd z (by rw [ha]; decide)) (fun _ => k_X8_shifted_16 hM.g (hi b) (Or.inl rfl) (fun z => absurd z (by rw [hb]; decide)) (fun _ => k_X8_shifted_32 r (Or.inl e) hM.g))))
    | true =>
      have hb' := of_decide_eq_true hb
      rw [if_pos (by omega)]
      obtain ⟨i, hi1, rfl⟩ := inr (x := a) (n := T.1.2.1.length) (by rw [lt0I]; omega) (by omega)
      obtain ⟨j, hj1, rfl⟩ := inr (x := b) (n := T.1.2.1.length) (by rw [lt0I]; omega) (by omega)
      rw [nn_I (by omega), nn_I (by omega)]
      have dl : (delL T.1.2.1 i).length = T.1.2.1.length - 1 := delL_len hi1
      have il : (insL (delL T.1.2.1 i) j (T.1.2.1.getD i 0)).length = T.1.2.1.length := by rw [insL_len (by omega), dl]; omega
      obtain ⟨h1, a1, a2, a3⟩ := u_takes (d := d + 9) hM hB hi1
      have hM1 := hM.keep a2
      obtain ⟨h2, b1, b2, b3⟩ := u_puts (d := d + 9) (k := j) (x := T.1.2.1.getD i 0) hM1 a3 (by show j ≤ (delL T.1.2.1 i).length; omega) (by show (delL T.1.2.1 i).length < 8; omega)
      have hM2 := hM1.keep b2
      have s1 := u_isStanding (d := d + 4) hM2 b3 (insL_in (delL_in o1) (o1 _ (getD_mem hi1)))
      obtain ⟨h3, c1, c2, c3⟩ := u_takes (d := d + 9) (k := j) hM2 b3 (by show j < (insL (delL T.1.2.1 i) j _).length; omega)
      have c3 : MB h3 m (T.1.1, delL (insL (delL T.1.2.1 i) j (T.1.2.1.getD i 0)) j, T.1.2.2) := c3
      rw [del_ins (by omega)] at c3
      have hM3 := hM2.keep c2
      obtain ⟨h4, e1, e2, e3⟩ := u_puts (d := d + 9) (k := i) (x := T.1.2.1.getD i 0) hM3 c3 (by show i ≤ (delL T.1.2.1 i).length; omega) (by show (delL T.1.2.1 i).length < 8; omega)
      have e3 : MB h4 m (T.1.1, insL (delL T.1.2.1 i) i (T.1.2.1.getD i 0), T.1.2.2) := e3
      rw [ins_del hi1] at e3
      have fin : ∀ v : Int32, J mX8_shifted (d + 10) 64 [some (.ref m), some (.int (nI i)), some (.int (nI j)), some (.int (nI (T.1.2.1.getD i 0))), none] [.int v] h2 (some (.int v)) h4 := fun v => k_X8_shifted_64 c1 (Or.inl c2.1) hM2.g e1 (Or.inl e2.1) hM3.g
      refine mqV hS0 ⟨h4, jm mi_X8_shifted (Nat.le_of_ble_eq_true rfl) ⟨.int, rfl, rfl⟩ rfl (k_X8_shifted_0 hM.g (hi _) (Or.inl rfl) (fun z => absurd z (by rw [ha]; decide)) (fun _ => k_X8_shifted_16 hM.g (hi _) (Or.inl rfl) (fun _ => k_X8_shifted_40 a1 (Or.inl a2.1) hM.g b1 (Or.inl b2.1) hM1.g s1 (Or.inl rfl) hM2.g (fun q => ?_) (fun q => ?_)) (fun z => absurd z (by rw [hb]; decide)))), (((a2.tr b2).tr c2).tr e2).mono (fun i k q => Or.inl (fPV q)), e3⟩
      · rw [bI_0.mp q]
        exact k_X8_shifted_63 (fin 0)
      · rw [bI_n0.mp q]
        exact k_X8_shifted_59 (fin 1)
theorem least_le {s : Nat → Int} : ∀ n j b, s (leastFrom s n j b) ≤ s b ∧ ∀ i, j ≤ i → i < j + n → s (leastFrom s n j b) ≤ s i
  | 0, _, _ => ⟨Int.le_refl _, fun i h1 h2 => by omega⟩
  | n + 1, j, b => by
    unfold leastFrom
    by_cases h : s j < s b
    · rw [if_pos h]
      obtain ⟨i1, i2⟩ := least_le (s := s) n (j + 1) j
      refine ⟨by omega, fun i h1 h2 => ?_⟩
      by_cases e : i = j
      · rw [e]; exact i1
      · exact i2 i (by omega) (by omega)
    · rw [if_neg h]
      obtain ⟨i1, i2⟩ := least_le (s := s) n (j + 1) b
      refine ⟨i1, fun i h1 h2 => ?_⟩
      by_cases e : i = j
      · rw [e]; omega
      · exact i2 i (by omega) (by omega)
theorem least_crush {P : List Pers} {L : List Nat} (hl : 0 < L.length) (hL : L.length ≤ 8) : lslZ P L < 0 ↔ maskL (crushB P L) L ≠ 0 := by
  obtain ⟨i1, i2⟩ := least_le (s := slackZ P L) (L.length - 1) 1 0
  have hlt := leastK_lt (P := P) hl
  constructor
  · intro h e
    have hc : crushB P L (leastK P L) = true := crush_iff.mpr h
    have : (maskL (crushB P L) L).testBit (L.getD (leastK P L) 0) = true := by
      unfold maskL
      rw [orN_bit]
      exact ⟨_, hlt, by rw [if_pos hc, Nat.testBit_two_pow, decide_eq_true_eq]⟩
    rw [e, Nat.zero_testBit] at this
    cases this
  · intro h
    rcases Int.lt_or_le (lslZ P L) 0 with z | z
    · exact z
    · exfalso
      apply h
      apply Nat.eq_of_testBit_eq
      intro x
      rw [Nat.zero_testBit, ← Bool.not_eq_true]
      unfold maskL
      rw [orN_bit]
      rintro ⟨k, hk, hx⟩
      have : crushB P L k = false := by
        rw [← Bool.not_eq_true, crush_iff]
        have : lslZ P L ≤ slackZ P L k := by
          by_cases e : k = 0
          · rw [e]; exact i1
          · exact i2 k (by omega) (by omega)
        omega
      rw [this, if_neg (by decide), Nat.zero_testBit] at hx
      cases hx
theorem u_least {σ : WS} (hM : ModH h m) (hB : MB h m σ) (hL : inP σ.1 σ.2.1) (h0 : 0 < σ.2.1.length) : JMt mX8_leastAt (some .int) (d + 3) [.ref m] h (some (.int (nI (leastK σ.1 σ.2.1)))) h ∧ JMt mX8_slackAt (some .int) (d + 3) [.ref m, .int (nI (leastK σ.1 σ.2.1))] h (some (.int (sI (lslZ σ.1 σ.2.1)))) h := ⟨u_leastAt hM hB hL h0, u_slackAt hM hB hL (leastK_lt h0)⟩
theorem m_foot {p : Int32} (hS : MS h m ko to T) : RfQ mX8_foot (d + 10) [.ref m, .int p] h m ko to T (q_foot T.1 p) := by
  have hS0 := hS
  obtain ⟨hT, hM, hB, hTp, hRf, hSh, hK, hTr⟩ := hS
  obtain ⟨o1, o2, o3, o4, o5, o6⟩ := hT.1
  have n8 := hB.n8
  have l8 := hB.l8
  unfold q_foot
  cases hp : hasB T.1.1.length p with
  | false =>
    rw [if_neg (by decide)]
    exact mqR (k := 0) (by omega) hS0 (fun h1 r e => jm mi_X8_foot (Nat.le_of_ble_eq_true rfl) ⟨.int, rfl, rfl⟩ rfl (k_X8_foot_0 (t_isPerson hM hB) (Or.inl rfl) hM.g (fun z => absurd z (by rw [hp]; decide)) (fun _ => k_X8_foot_9 r (Or.inl e) hM.g)))
  | true =>
    rw [if_pos rfl]
    obtain ⟨i, hi, rfl⟩ := hasB_nI hp
    rw [nn_I (by omega)]
    have hc := u_courseOf (d := d + 9) (x := i) hM hB o1 (by omega)
    -- from the place behind the taking out
    have mid : ∀ (K : List Nat) (c : Option Nat) (h2 : PH), inP T.1.1 K → K.length < 8 → footL T.1.2.1 i = insL K 0 i → (∀ k, c = some k → k ≤ K.length ∧ insL K k i = T.1.2.1) → (c = none → K = T.1.2.1) → ModH h2 m → MB h2 m (T.1.1, K, T.1.2.2) → ∃ h1, J mX8_foot (d + 10) 34 [some (.ref m), some (.int (nI i)), some (.int (oI c)), none] [] h2 (some (.int (bI (decide (maskL (crushB T.1.1 (footL T.1.2.1 i)) (footL T.1.2.1 i) = 0))))) h1 ∧ Upf (fV m) h2 h1 ∧ MB h1 m T.1 := fun K c h2 hK hKl ef ek en hM2 hB2 => by
      rw [ef]
      have il : (insL K 0 i).length = K.length + 1 := insL_len (Nat.zero_le _)
      obtain ⟨h3, a1, a2, a3⟩ := u_puts (d := d + 9) (k := 0) (x := i) hM2 hB2 (Nat.zero_le _) hKl
      have hM3 := hM2.keep a2
      obtain ⟨s1, s2⟩ := u_least (d := d + 6) hM3 a3 (insL_in hK hi) (by show 0 < (insL K 0 i).length; omega)
      obtain ⟨h4, c1, c2, c3⟩ := u_takes (d := d + 9) (k := 0) hM3 a3 (by show 0 < (insL K 0 i).length; omega)
      have c3 : MB h4 m (T.1.1, delL (insL K 0 i) 0, T.1.2.2) := c3
      rw [del_ins (Nat.zero_le _)] at c3
      have hM4 := hM3.keep c2
      have lb := slackZ_lsl (P := T.1.1) (L := insL K 0 i) hB.ok (by omega)
      have lc := least_crush (P := T.1.1) (L := insL K 0 i) (by omega) (by omega)
      -- the end: put back
      have fin : ∀ b : Bool, ∃ h1, J mX8_foot (d + 10) 56 [some (.ref m), some (.int (nI i)), some (.int (oI c)), none] [.int (bI b)] h3 (some (.int (bI b))) h1 ∧ Upf (fV m) h3 h1 ∧ MB h1 m T.1 := fun b => by
        have last : ∀ h5 : PH, J mX8_foot (d + 10) 74 [some (.ref m), some (.int (nI i)), some (.int (oI c)), some (.int (bI b))] [] h5 (some (.int (bI b))) h5 := fun h5 => k_X8_foot_74 (fun q => by rw [bI_0.mp q]; exact k_X8_foot_82 k_X8_foot_83) (fun q => by rw [bI_n0.mp q]; exact k_X8_foot_78 k_X8_foot_83)
        cases c with
        | none =>
          rw [en rfl] at c3
          exact ⟨h4, k_X8_foot_56 c1 (Or.inl c2.1) hM3.g (fun _ => last h4) (fun z => absurd rfl z), c2.mono (fun i k => fPV), c3⟩
        | some k =>
          obtain ⟨k1, k2⟩ := ek k rfl
          obtain ⟨h5, e1, e2, e3⟩ := u_puts (d := d + 9) (k := k) (x := i) hM4 c3 k1 hKl
          have e3 : MB h5 m (T.1.1, insL K k i, T.1.2.2) := e3
          rw [k2] at e3
          exact ⟨h5, k_X8_foot_56 c1 (Or.inl c2.1) hM3.g (fun z => absurd z (nI_nneg1 (n := k) (by omega))) (fun _ => k_X8_foot_68 e1 (Or.inl e2.1) hM4.g (last h5)), (c2.tr e2).mono (fun i k => fPV), e3⟩
      have z0 : sI (lslZ T.1.1 (insL K 0 i)) < 0 ↔ lslZ T.1.1 (insL K 0 i) < 0 := by rw [show (0 : Int32) = sI 0 from rfl, sI_lt (by omega) (by omega) (by omega) (by omega)]
      by_cases hz : lslZ T.1.1 (insL K 0 i) < 0
      · obtain ⟨h1, f1, f2, f3⟩ := fin false
        rw [decide_eq_false (lc.mp hz)]
        exact ⟨h1, k_X8_foot_34 a1 (Or.inl a2.1) hM2.g s1 (Or.inl rfl) hM3.g s2 (Or.inl rfl) hM3.g (fun _ => k_X8_foot_55 f1) (fun q => absurd (z0.mpr hz) q), (a2.mono (fun i k => fPV)).tr f2, f3⟩
      · obtain ⟨h1, f1, f2, f3⟩ := fin true
        rw [decide_eq_true (Classical.byContradiction fun e => hz (lc.mpr e))]
        exact ⟨h1, k_X8_foot_34 a1 (Or.inl a2.1) hM2.g s1 (Or.inl rfl) hM3.g s2 (Or.inl rfl) hM3.g (fun q => absurd (z0.mp q) hz) (fun _ => k_X8_foot_51 f1), (a2.mono (fun i k => fPV)).tr f2, f3⟩
    cases hk : courseF T.1.2.1 i 0 with
    | none =>
      rw [hk] at hc
      have hll := not_in_len o2 o1 hi (by rw [hk]; rfl)
      obtain ⟨h1, b1, b2, b3⟩ := mid T.1.2.1 none h o1 (by omega) (by unfold footL; rw [hk]) (fun k z => by cases z) (fun _ => rfl) hM hB
      exact mqV hS0 ⟨h1, jm mi_X8_foot (Nat.le_of_ble_eq_true rfl) ⟨.int, rfl, rfl⟩ rfl (k_X8_foot_0 (t_isPerson hM hB) (Or.inl rfl) hM.g (fun _ => k_X8_foot_17 hc (Or.inl rfl) hM.g (fun _ => b1) (fun z => absurd rfl z)) (fun z => absurd z (by rw [hp]; decide))), b2.mono (fun i k q => Or.inl q), b3⟩
    | some k =>
      rw [hk] at hc
      obtain ⟨hkl, hkx⟩ := courseF_lt hk
      have dl : (delL T.1.2.1 k).length = T.1.2.1.length - 1 := delL_len hkl
      obtain ⟨h2, a1, a2, a3⟩ := u_takes (d := d + 9) hM hB hkl
      obtain ⟨h1, b1, b2, b3⟩ := mid (delL T.1.2.1 k) (some k) h2 (delL_in o1) (by omega) (by unfold footL; rw [hk]) (fun k' z => by cases z; exact ⟨by omega, by rw [← hkx]; exact ins_del hkl⟩) (fun z => by cases z) (hM.keep a2) a3
      exact mqV hS0 ⟨h1, jm mi_X8_foot (Nat.le_of_ble_eq_true rfl) ⟨.int, rfl, rfl⟩ rfl (k_X8_foot_0 (t_isPerson hM hB) (Or.inl rfl) hM.g (fun _ => k_X8_foot_17 hc (Or.inl rfl) hM.g (fun z => absurd z (nI_nneg1 (n := k) (by omega))) (fun _ => k_X8_foot_28 a1 (Or.inl a2.1) hM.g b1)) (fun z => absurd z (by rw [hp]; decide))), ((a2.mono (fun i k => fPV)).tr b2).mono (fun i k q => Or.inl q), b3⟩
end TR
