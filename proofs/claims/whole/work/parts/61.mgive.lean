/-! statements of the reference: give, tell, feed, wipe, status -/
section SU
variable {d : Nat} {h h1 : PH} {m : Nat} {ko to : Option Nat} {T : TS}
theorem MC.three {P : List Pers} {p : Nat} {q : Pers} (hC : MC h m P) (hp : p < P.length) (e0 : q.1 = (pg P p).1) (e1 : q.2.1 = (pg P p).2.1) (hok : okP q) (a : Upf (fun i k => m + 19 ≤ i ∧ i ≤ m + 21 ∧ k = p) h h1) (v2 : hI h1 (m + 19) p = nI q.2.2.1) (v3 : hI h1 (m + 20) p = nI q.2.2.2.1) (v4 : hI h1 (m + 21) p = nI q.2.2.2.2) : MC h1 m (P.set p q) := by
  obtain ⟨c1, c2, c3, c4⟩ := hC
  refine ⟨by rw [a.ii (by omega), List.length_set]; exact c1, by rw [List.length_set]; exact c2, set_okP c3 hok, fun x hx => ?_⟩
  rw [List.length_set] at hx
  obtain ⟨t0, t1, t2, t3, t4⟩ := c4 x hx
  rw [pg_set hp]
  by_cases hxp : x = p
  · subst hxp
    rw [if_pos rfl, a.ii (i := m + 17) (by omega), a.ii (i := m + 18) (by omega), e0, e1]
    exact ⟨t0, t1, v2, v3, v4⟩
  · rw [if_neg hxp, a.ii (i := m + 17) (by omega), a.ii (i := m + 18) (by omega), a.ii (i := m + 19) (by omega), a.ii (i := m + 20) (by omega), a.ii (i := m + 21) (by omega)]
    exact ⟨t0, t1, t2, t3, t4⟩
theorem u_gave {σ : WS} {p : Nat} {q : Pers} {x y z : Int32} (hM : ModH h m) (hB : MB h m σ) (hp : p < σ.1.length) (e0 : q.1 = (pg σ.1 p).1) (e1 : q.2.1 = (pg σ.1 p).2.1) (hok : okP q) (ex : x = nI q.2.2.1) (ey : y = nI q.2.2.2.1) (ez : z = nI q.2.2.2.2) : Upf (fVS m) h (setI (setI (setI h (m + 19) p x) (m + 20) p y) (m + 21) p z) ∧ MB (setI (setI (setI h (m + 19) p x) (m + 20) p y) (m + 21) p z) m (σ.1.set p q, σ.2) := by
  have U : Upf (fun i k => m + 19 ≤ i ∧ i ≤ m + 21 ∧ k = p) h (setI (setI (setI h (m + 19) p x) (m + 20) p y) (m + 21) p z) := ((Upf.set ⟨by omega, by omega, rfl⟩).st ⟨by omega, by omega, rfl⟩).st ⟨by omega, by omega, rfl⟩
  refine ⟨U.mono (fun i k z => Or.inl (by unfold fV; omega)), hB.1.three hp e0 e1 hok U ?_ ?_ ?_, hB.2.1.of (fun i k z => U.ii (by omega)), hB.2.2.of (fun i k z => U.ii (by omega))⟩
  · rw [hI_setI, if_neg (by omega), hI_setI, if_neg (by omega), hI_setI, if_pos ⟨rfl, rfl⟩]; exact ex
  · rw [hI_setI, if_neg (by omega), hI_setI, if_pos ⟨rfl, rfl⟩]; exact ey
  · rw [hI_setI, if_pos ⟨rfl, rfl⟩]; exact ez
theorem le2 {k : Nat} (h : k ≤ 2) : k = 0 ∨ k = 1 ∨ k = 2 := by omega
theorem m_give {p w v : Int32} (hS : MS h m ko to T) : RfU mX8_give (d + 10) [.ref m, .int p, .int w, .int v] h m ko to (s_give T p w v).1 (s_give T p w v).2 := by
  have hS0 := hS
  obtain ⟨hT, hM, hB, hTp, hRf, hSh, hK, hTr⟩ := hS
  obtain ⟨o1, o2, o3, o4, o5, o6⟩ := hT.1
  have n8 := hB.n8
  have l8 := hB.l8
  unfold s_give
  cases hp : hasB T.1.1.length p with
  | false =>
    rw [Bool.false_and, Bool.false_and, if_neg (by decide)]
    exact muR (k := 0) (by omega) hS0 (fun h1 r e => jm mi_X8_give (Nat.le_of_ble_eq_true rfl) ⟨.int, rfl, rfl⟩ rfl (k_X8_give_0 (t_isPerson hM hB) (Or.inl rfl) hM.g (fun _ => k_X8_give_52 r (Or.inl e) hM.g) (fun z => absurd z (by rw [hp]; decide))))
  | true =>
    rw [Bool.true_and]
    cases hb : inB w 0 2 with
    | false =>
      rw [Bool.false_and, if_neg (by decide)]
      exact muR (k := 0) (by omega) hS0 (fun h1 r e => jm mi_X8_give (Nat.le_of_ble_eq_true rfl) ⟨.int, rfl, rfl⟩ rfl (k_X8_give_0 (t_isPerson hM hB) (Or.inl rfl) hM.g (fun z => absurd z (by rw [hp]; decide)) (fun _ => k_X8_give_9 t_in_0_2 (Or.inl rfl) (fun _ => k_X8_give_52 r (Or.inl e) hM.g) (fun z => absurd z (by rw [hb]; decide)))))
    | true =>
      rw [Bool.true_and]
      obtain ⟨i, hi, rfl⟩ := hasB_nI hp
      obtain ⟨w, hw, rfl⟩ := inB_nI (n := 2) (by omega) hb
      rw [nn_I (by omega), nn_I (by omega)]
      have ci : (nI i).toNatClampNeg = i := nI_clamp (by omega)
      have vi : vp_in (nI i) 8 := (vp_in_nI (by omega) (by omega))
      have hv : JMt mX8_in (some .boolean) (d + 9) [.long v.toInt64, .long (if w = 0 then (1 : Int64) else 0), .long (if w = 1 then (99 : Int64) else 40)] h (some (.int (bI (mayB (2 + w) v.toInt)))) h := by
        rcases le2 hw with rfl | rfl | rfl
        · exact t_in_1_40
        · exact t_in_0_99
        · exact t_in_0_40
      -- up to the test
      have ent : ∀ {o : Option Value} {h' : PH}, RetT (some .int) o → J mX8_give (d + 10) 46 [some (.ref m), some (.int (nI i)), some (.int (nI w)), some (.int v), none] [.long (if w = 1 then (99 : Int64) else 40), .long (if w = 0 then (1 : Int64) else 0), .long v.toInt64] h o h' → JMt mX8_give (some .int) (d + 10) [.ref m, .int (nI i), .int (nI w), .int v] h o h' := fun rt kk => by
        refine jm mi_X8_give (Nat.le_of_ble_eq_true rfl) rt rfl (k_X8_give_0 (t_isPerson hM hB) (Or.inl rfl) hM.g (fun z => absurd z (by rw [hp]; decide)) (fun _ => k_X8_give_9 t_in_0_2 (Or.inl rfl) (fun z => absurd z (by rw [hb]; decide)) (fun _ => ?_)))
        rcases le2 hw with rfl | rfl | rfl
        · exact k_X8_give_21 (fun z => absurd rfl z) (fun _ => k_X8_give_27 (k_X8_give_32 (fun _ => k_X8_give_43 kk) (fun z => absurd z (by decide))))
        · exact k_X8_give_21 (fun _ => k_X8_give_31 (k_X8_give_32 (fun z => absurd rfl z) (fun _ => k_X8_give_37 kk))) (fun z => absurd z (by decide))
        · exact k_X8_give_21 (fun _ => k_X8_give_31 (k_X8_give_32 (fun _ => k_X8_give_43 kk) (fun z => absurd z (by decide)))) (fun z => absurd z (by decide))
      cases hm : mayB (2 + w) v.toInt with
      | false =>
        rw [if_neg (by decide)]
        exact muR (k := 0) (by omega) hS0 (fun h1 r e => ent ⟨.int, rfl, rfl⟩ (k_X8_give_46 hv (Or.inl rfl) (fun z => absurd z (by rw [hm]; decide)) (fun _ => k_X8_give_52 r (Or.inl e) hM.g)))
      | true =>
        rw [if_pos rfl]
        obtain ⟨v, hv1, hv2, rfl, hv3⟩ := mayB_nI hm
        rw [nn_I (by omega)]
        have hok := pg_ok hB.ok i
        have okq := okP_set hok (w := w) (by omega) hv2 hv1
        have go : ∀ {o : Option Value} {h' : PH}, RetT (some .int) o → J mX8_give (d + 10) 60 [some (.ref m), some (.int (nI i)), some (.int (nI w)), some (.int (nI v)), none] [] h o h' → JMt mX8_give (some .int) (d + 10) [.ref m, .int (nI i), .int (nI w), .int (nI v)] h o h' := fun rt kk => ent rt (k_X8_give_46 hv (Or.inl rfl) (fun _ => kk) (fun z => absurd z (by rw [hm]; decide)))
        have fin : ∀ {q : Pers} {x y z : Int32}, okP q → q.1 = (pg T.1.1 i).1 → q.2.1 = (pg T.1.1 i).2.1 → x = nI q.2.2.1 → y = nI q.2.2.2.1 → z = nI q.2.2.2.2 → ∀ old : Int32, J mX8_give (d + 10) 60 [some (.ref m), some (.int (nI i)), some (.int (nI w)), some (.int (nI v)), none] [] h (some (.int old)) (setI (setI (setI h (m + 19) i x) (m + 20) i y) (m + 21) i z) → RfU mX8_give (d + 10) [.ref m, .int (nI i), .int (nI w), .int (nI v)] h m ko to old (updW T (T.1.1.set i q, T.1.2)) := fun okq e0 e1 ex ey ez old kk => by
          obtain ⟨U, B⟩ := u_gave hM hB hi e0 e1 okq ex ey ez
          exact muW hS0 ⟨inP_set o1, o2, o3, o4, o5, o6⟩ (by show _ ≤ (T.1.1.set i _).length; rw [List.length_set]; exact Nat.le_refl _) ⟨_, go ⟨.int, rfl, rfl⟩ kk, U, B⟩
        rcases le2 hw with rfl | rfl | rfl
        · have kk : J mX8_give (d + 10) 60 [some (.ref m), some (.int (nI i)), some (.int (nI 0)), some (.int (nI v)), none] [] h (some (.int (hI h (m + 19) (nI i).toNatClampNeg))) _ := k_X8_give_60 (fun z => absurd rfl z) (fun _ => k_X8_give_64 hM.g hM.r16 hM.g16 vi (k_X8_give_93 hM.g hM.r16 (fun z => absurd rfl z) (fun _ => k_X8_give_104 (k_X8_give_114 hM.g16 vi hM.g hM.r17 (fun _ => k_X8_give_129 hM.g hM.r17 hM.g17 vi (k_X8_give_135 hM.g17 vi hM.g hM.r18 (fun _ => k_X8_give_150 hM.g hM.r18 hM.g18 vi (k_X8_give_156 hM.g18 vi)) (fun z => absurd z (by decide)))) (fun z => absurd z (by decide))))))
          rw [ci] at kk
          refine ?_
          have f1 : hI (setI h (m + 19) i (nI v)) (m + 20) i = nI (setP (pg T.1.1 i) (2 + 0) v).2.2.2.1 := by rw [hI_setI, if_neg (by omega)]; exact hB.sr hi
          have f2 : hI (setI (setI h (m + 19) i (nI v)) (m + 20) i (hI (setI h (m + 19) i (nI v)) (m + 20) i)) (m + 21) i = nI (setP (pg T.1.1 i) (2 + 0) v).2.2.2.2 := by rw [hI_setI, if_neg (by omega), hI_setI, if_neg (by omega)]; exact hB.ne hi
          have := fin okq rfl rfl rfl f1 f2 _ kk
          rw [hB.we hi] at this
          exact this
        · have kk : J mX8_give (d + 10) 60 [some (.ref m), some (.int (nI i)), some (.int (nI 1)), some (.int (nI v)), none] [] h (some (.int (hI h (m + 20) (nI i).toNatClampNeg))) _ := k_X8_give_60 (fun _ => k_X8_give_73 (fun z => absurd rfl z) (fun _ => k_X8_give_78 hM.g hM.r17 hM.g17 vi (k_X8_give_93 hM.g hM.r16 (fun _ => k_X8_give_108 hM.g hM.r16 hM.g16 vi (k_X8_give_114 hM.g16 vi hM.g hM.r17 (fun z => absurd rfl z) (fun _ => k_X8_give_125 (k_X8_give_135 hM.g17 vi hM.g hM.r18 (fun _ => k_X8_give_150 hM.g hM.r18 hM.g18 vi (k_X8_give_156 hM.g18 vi)) (fun z => absurd z (by decide)))))) (fun z => absurd z (by decide))))) (fun z => absurd z (by decide))
          rw [ci] at kk
          have f0 : hI h (m + 19) i = nI (setP (pg T.1.1 i) (2 + 1) v).2.2.1 := hB.we hi
          have f2 : hI (setI (setI h (m + 19) i (hI h (m + 19) i)) (m + 20) i (nI v)) (m + 21) i = nI (setP (pg T.1.1 i) (2 + 1) v).2.2.2.2 := by rw [hI_setI, if_neg (by omega), hI_setI, if_neg (by omega)]; exact hB.ne hi
          have := fin okq rfl rfl f0 rfl f2 _ kk
          rw [hB.sr hi] at this
          exact this
        · have kk : J mX8_give (d + 10) 60 [some (.ref m), some (.int (nI i)), some (.int (nI 2)), some (.int (nI v)), none] [] h (some (.int (hI h (m + 21) (nI i).toNatClampNeg))) _ := k_X8_give_60 (fun _ => k_X8_give_73 (fun _ => k_X8_give_87 hM.g hM.r18 hM.g18 vi (k_X8_give_93 hM.g hM.r16 (fun _ => k_X8_give_108 hM.g hM.r16 hM.g16 vi (k_X8_give_114 hM.g16 vi hM.g hM.r17 (fun _ => k_X8_give_129 hM.g hM.r17 hM.g17 vi (k_X8_give_135 hM.g17 vi hM.g hM.r18 (fun z => absurd rfl z) (fun _ => k_X8_give_146 (k_X8_give_156 hM.g18 vi)))) (fun z => absurd z (by decide)))) (fun z => absurd z (by decide)))) (fun z => absurd z (by decide))) (fun z => absurd z (by decide))
          rw [ci] at kk
          have f0 : hI h (m + 19) i = nI (setP (pg T.1.1 i) (2 + 2) v).2.2.1 := hB.we hi
          have f1 : hI (setI h (m + 19) i (hI h (m + 19) i)) (m + 20) i = nI (setP (pg T.1.1 i) (2 + 2) v).2.2.2.1 := by rw [hI_setI, if_neg (by omega)]; exact hB.sr hi
          have := fin okq rfl rfl f0 f1 rfl _ kk
          rw [hB.ne hi] at this
          exact this
theorem u_told {σ : WS} {x y z : Int32} {a b c : Nat} (hB : MB h m σ) (ex : x = nI a) (ey : y = nI b) (ez : z = nI c) (ha : a ≤ 10) (hb : b ≤ 8) (hc : c ≤ 999) : Upf (fVS m) h (setI (setI (setI h m 9 x) m 10 y) m 11 z) ∧ MB (setI (setI (setI h m 9 x) m 10 y) m 11 z) m (σ.1, σ.2.1, a, b, c, σ.2.2.2.2.2) := by
  have U : Upf (fun i k => i = m ∧ (k = 9 ∨ k = 10 ∨ k = 11)) h (setI (setI (setI h m 9 x) m 10 y) m 11 z) := ((Upf.set ⟨rfl, by omega⟩).st ⟨rfl, by omega⟩).st ⟨rfl, by omega⟩
  obtain ⟨w1, w2, w3, w4, w5, w6⟩ := hB.2.2
  refine ⟨U.mono (fun i k z => Or.inl (by unfold fV; omega)), hB.1.of (fun i k z => U.ii (by omega)), hB.2.1.of (fun i k z => U.ii (by omega)), ?_, ?_, ?_, ?_, ?_, ha, hb, hc⟩
  · rw [hI_setI, if_neg (by omega), hI_setI, if_neg (by omega), hI_setI, if_pos ⟨rfl, rfl⟩]; exact ex
  · rw [hI_setI, if_neg (by omega), hI_setI, if_pos ⟨rfl, rfl⟩]; exact ey
  · rw [hI_setI, if_pos ⟨rfl, rfl⟩]; exact ez
  · rw [U.ii (by omega)]; exact w4
  · rw [U.ii (by omega)]; exact w5
theorem m_tell {w v : Int32} (hS : MS h m ko to T) : RfU mX8_tell (d + 10) [.ref m, .int w, .int v] h m ko to (s_tell T w v).1 (s_tell T w v).2 := by
  have hS0 := hS
  obtain ⟨hT, hM, hB, hTp, hRf, hSh, hK, hTr⟩ := hS
  obtain ⟨o1, o2, o3, o4, o5, o6⟩ := hT.1
  have n8 := hB.n8
  have l8 := hB.l8
  unfold s_tell
  -- the test
  have tst : ∀ {o : Option Value} {h' : PH}, RetT (some .int) o → J mX8_tell (d + 10) 59 [some (.ref m), some (.int w), some (.int v), none, none] [.int (bI (tellB T.1.2.1.length w.toInt v.toInt))] h o h' → JMt mX8_tell (some .int) (d + 10) [.ref m, .int w, .int v] h o h' := fun rt kk => by
    refine jm mi_X8_tell (Nat.le_of_ble_eq_true rfl) rt rfl (k_X8_tell_0 (fun z0 => k_X8_tell_16 (fun z1 => k_X8_tell_37 (fun z2 => ?_) (fun z2 => ?_)) (fun z1 => ?_)) (fun z0 => ?_))
    · have : tellB T.1.2.1.length w.toInt v.toInt = false := by
        refine decide_eq_false (fun y => ?_)
        rcases y with y | y | y
        · exact z0 (Int32.toInt_inj.mp (by rw [y.1]; rfl))
        · exact z1 (Int32.toInt_inj.mp (by rw [y.1]; rfl))
        · exact z2 (Int32.toInt_inj.mp (by rw [y.1]; rfl))
      rw [this] at kk
      exact k_X8_tell_58 kk
    · subst z2
      have : tellB T.1.2.1.length (2 : Int32).toInt v.toInt = inB v 0 999 := decide_eq_decide.mpr (by show ((2 : Int) = 0 ∧ _ ∨ (2 : Int) = 1 ∧ _ ∨ (2 : Int) = 2 ∧ _) ↔ _; omega)
      rw [this] at kk
      exact k_X8_tell_42 t_in_0_999 (Or.inl rfl) (fun q => by rw [bI_0.mp q] at kk; exact k_X8_tell_58 kk) (fun q => by rw [bI_n0.mp q] at kk; exact k_X8_tell_54 kk)
    · subst z1
      have hl : (nI (if T.1.2.1.length ≤ 1 then 1 else T.1.2.1.length)).toInt64.toInt = ((if T.1.2.1.length ≤ 1 then 1 else T.1.2.1.length : Nat) : Int) := by rw [tr64, nI_toInt (by split <;> omega)]
      have : tellB T.1.2.1.length (1 : Int32).toInt v.toInt = inB v ((if T.1.2.1.length ≤ 1 then 1 else T.1.2.1.length : Nat) : Int) 8 := decide_eq_decide.mpr (by show ((1 : Int) = 0 ∧ _ ∨ (1 : Int) = 1 ∧ _ ∨ (1 : Int) = 2 ∧ _) ↔ _; split <;> omega)
      rw [this] at kk
      exact k_X8_tell_21 (u_leastMost hM hB) (Or.inl rfl) hM.g (t_inI hl rfl) (Or.inl rfl) kk
    · subst z0
      have : tellB T.1.2.1.length (0 : Int32).toInt v.toInt = inB v 0 9 := decide_eq_decide.mpr (by show ((0 : Int) = 0 ∧ _ ∨ (0 : Int) = 1 ∧ _ ∨ (0 : Int) = 2 ∧ _) ↔ _; omega)
      rw [this] at kk
      exact k_X8_tell_4 t_in_0_9 (Or.inl rfl) kk
  cases hb : tellB T.1.2.1.length w.toInt v.toInt with
  | false =>
    rw [hb] at tst
    rw [if_neg (by decide)]
    exact muR (k := 0) (by omega) hS0 (fun h1 r e => tst ⟨.int, rfl, rfl⟩ (k_X8_tell_59 (fun z => absurd rfl z) (fun _ => k_X8_tell_64 r (Or.inl e) hM.g)))
  | true =>
    rw [hb] at tst
    rw [if_pos rfl]
    have hbb := of_decide_eq_true hb
    obtain ⟨v, hv, rfl⟩ := inr (x := v) (n := 1000) (by rw [lt0I]; omega) (by omega)
    obtain ⟨w, hw, rfl⟩ := inr (x := w) (n := 3) (by rw [lt0I]; omega) (by omega)
    rw [nI_toInt (by omega), nI_toInt (by omega)] at hbb
    rw [nn_I (by omega), nn_I (by omega)]
    have ho : okW (setW T.1 w v) := okW_set hT.1 hw (by rw [nI_toInt (by omega), nI_toInt (by omega)] at hb; exact hb)
    have go : ∀ {o : Option Value} {h' : PH}, RetT (some .int) o → J mX8_tell (d + 10) 72 [some (.ref m), some (.int (nI w)), some (.int (nI v)), some (.int (bI true)), none] [] h o h' → JMt mX8_tell (some .int) (d + 10) [.ref m, .int (nI w), .int (nI v)] h o h' := fun rt kk => tst rt (k_X8_tell_59 (fun _ => kk) (fun z => absurd z (by decide)))
    have fin : ∀ {x y z old : Int32} {a b c : Nat}, x = nI a → y = nI b → z = nI c → a ≤ 10 → b ≤ 8 → c ≤ 999 → okW (T.1.1, T.1.2.1, a, b, c, T.1.2.2.2.2.2) → J mX8_tell (d + 10) 72 [some (.ref m), some (.int (nI w)), some (.int (nI v)), some (.int (bI true)), none] [] h (some (.int old)) (setI (setI (setI h m 9 x) m 10 y) m 11 z) → RfU mX8_tell (d + 10) [.ref m, .int (nI w), .int (nI v)] h m ko to old (updW T (T.1.1, T.1.2.1, a, b, c, T.1.2.2.2.2.2)) := fun ex ey ez ha hb hc ho kk => by
      obtain ⟨U, B⟩ := u_told hB ex ey ez ha hb hc
      exact muW hS0 ho (Nat.le_refl _) ⟨_, go ⟨.int, rfl, rfl⟩ kk, U, B⟩
    have w10 := hB.w10
    have m8 := hB.m8
    have d9 := hB.d999
    rcases (by omega : w = 0 ∨ w = 1 ∨ w = 2) with rfl | rfl | rfl
    · have kk : J mX8_tell (d + 10) 72 [some (.ref m), some (.int (nI 0)), some (.int (nI v)), some (.int (bI true)), none] [] h (some (.int (hI h m 9))) _ := k_X8_tell_72 (fun z => absurd rfl z) (fun _ => k_X8_tell_76 hM.g (k_X8_tell_99 (fun z => absurd rfl z) (fun _ => k_X8_tell_106 (k_X8_tell_114 hM.g (fun _ => k_X8_tell_127 hM.g (k_X8_tell_131 hM.g (fun _ => k_X8_tell_144 hM.g (k_X8_tell_148 hM.g)) (fun z => absurd z (by decide)))) (fun z => absurd z (by decide))))))
      have := fin rfl (by rw [hI_setI, if_neg (by omega)]; exact hB.mo) (by rw [hI_setI, if_neg (by omega), hI_setI, if_neg (by omega)]; exact hB.da) (show v ≤ 10 by omega) m8 d9 ho kk
      rw [hB.wi] at this
      exact this
    · have kk : J mX8_tell (d + 10) 72 [some (.ref m), some (.int (nI 1)), some (.int (nI v)), some (.int (bI true)), none] [] h (some (.int (hI h m 10))) _ := k_X8_tell_72 (fun _ => k_X8_tell_83 (fun z => absurd rfl z) (fun _ => k_X8_tell_88 hM.g (k_X8_tell_99 (fun _ => k_X8_tell_110 hM.g (k_X8_tell_114 hM.g (fun z => absurd rfl z) (fun _ => k_X8_tell_123 (k_X8_tell_131 hM.g (fun _ => k_X8_tell_144 hM.g (k_X8_tell_148 hM.g)) (fun z => absurd z (by decide)))))) (fun z => absurd z (by decide))))) (fun z => absurd z (by decide))
      have := fin hB.wi rfl (by rw [hI_setI, if_neg (by omega), hI_setI, if_neg (by omega)]; exact hB.da) w10 (show v ≤ 8 by omega) d9 ho kk
      rw [hB.mo] at this
      exact this
    · have kk : J mX8_tell (d + 10) 72 [some (.ref m), some (.int (nI 2)), some (.int (nI v)), some (.int (bI true)), none] [] h (some (.int (hI h m 11))) _ := k_X8_tell_72 (fun _ => k_X8_tell_83 (fun _ => k_X8_tell_95 hM.g (k_X8_tell_99 (fun _ => k_X8_tell_110 hM.g (k_X8_tell_114 hM.g (fun _ => k_X8_tell_127 hM.g (k_X8_tell_131 hM.g (fun z => absurd rfl z) (fun _ => k_X8_tell_140 (k_X8_tell_148 hM.g)))) (fun z => absurd z (by decide)))) (fun z => absurd z (by decide)))) (fun z => absurd z (by decide))) (fun z => absurd z (by decide))
      have := fin hB.wi (by rw [hI_setI, if_neg (by omega)]; exact hB.mo) rfl w10 m8 (show v ≤ 999 by omega) ho kk
      rw [hB.da] at this
      exact this
theorem m_feed {b : Int32} (hS : MS h m ko to T) : RfU mX8_feed (d + 10) [.ref m, .int b] h m ko to (s_feed T b).1 (s_feed T b).2 := by
  have hS0 := hS
  obtain ⟨hT, hM, hB, hTp, hRf, hSh, hK, hTr⟩ := hS
  obtain ⟨o1, o2, o3, o4, o5, o6⟩ := hT.1
  have n8 := hB.n8
  have l8 := hB.l8
  obtain ⟨t1, t2, t3, t4⟩ := hTp
  unfold s_feed
  cases hb : inB b 0 255 with
  | false =>
    rw [if_neg (by decide)]
    exact muR (k := 0) (by omega) hS0 (fun h1 r e => jm mi_X8_feed (Nat.le_of_ble_eq_true rfl) ⟨.int, rfl, rfl⟩ rfl (k_X8_feed_0 t_in_0_255 (Or.inl rfl) (fun z => absurd z (by rw [hb]; decide)) (fun _ => k_X8_feed_12 r (Or.inl e) hM.g)))
  | true =>
    rw [if_pos rfl]
    obtain ⟨b, hb1, rfl⟩ := inB_nI (n := 255) (by omega) hb
    rw [nn_I (by omega)]
    by_cases hl : T.2.2.2.1.length < 250
    · rw [if_pos hl]
      have kk := k_X8_feed_38 (d := d + 10) (a1 := nI b) hM.g hM.r6 hM.g6 (by rw [t1]; exact (vp_in_nI (by omega) (by omega)))
      rw [t1, nI_1, nI_clamp (by omega)] at kk
      have er : hI (setI (setI h m 7 (nI (T.2.2.2.1.length + 1))) (m + 15) T.2.2.2.1.length (nI b)) m 7 = nI (T.2.2.2.1.length + 1) := by rw [hI_setI, if_neg (by omega), hI_setI, if_pos ⟨rfl, rfl⟩]
      rw [er] at kk
      have U : Upf (fun i k => (i = m ∧ k = 7) ∨ i = m + 15) h (setI (setI h m 7 (nI (T.2.2.2.1.length + 1))) (m + 15) T.2.2.2.1.length (nI b)) := (Upf.set (Or.inl ⟨rfl, rfl⟩)).st (Or.inr rfl)
      have hlen : (T.2.2.2.1 ++ [b]).length = T.2.2.2.1.length + 1 := by rw [List.length_append]; rfl
      refine ⟨_, jm mi_X8_feed (Nat.le_of_ble_eq_true rfl) ⟨.int, rfl, rfl⟩ rfl (k_X8_feed_0 t_in_0_255 (Or.inl rfl) (fun _ => k_X8_feed_20 hM.g (fun _ => kk) (fun z => absurd ((nI_eq (b := 250) (by omega) (by omega)).mp (t1.symm.trans z)) (by omega))) (fun z => absurd z (by rw [hb]; decide))), U.mono (fun i k z => by unfold fM; omega), hS0.tap U ⟨by rw [er, hlen], by rw [hlen]; omega, fun x hx => ?_, fun k hk => ?_⟩⟩
      · rcases List.mem_append.mp hx with z | z
        · exact t3 x z
        · rw [List.mem_singleton.mp z]; omega
      · rw [hlen] at hk
        rw [hI_setI, getD_snoc]
        by_cases e : k = T.2.2.2.1.length
        · rw [if_pos ⟨rfl, e⟩, if_neg (by omega), if_pos e]
        · rw [if_neg (fun z => e z.2), if_pos (by omega), hI_setI, if_neg (by omega)]
          exact t4 k (by omega)
    · rw [if_neg hl]
      have h250 : T.2.2.2.1.length = 250 := by omega
      exact muR (k := 4) (by omega) hS0 (fun h1 r e => jm mi_X8_feed (Nat.le_of_ble_eq_true rfl) ⟨.int, rfl, rfl⟩ rfl (k_X8_feed_0 t_in_0_255 (Or.inl rfl) (fun _ => k_X8_feed_20 hM.g (fun z => absurd (by rw [t1, h250]; rfl) z) (fun _ => k_X8_feed_30 r (Or.inl e) hM.g)) (fun z => absurd z (by rw [hb]; decide))))
theorem m_wipe (hS : MS h m ko to T) : RfU mX8_wipe (d + 10) [.ref m] h m ko to (s_wipe T).1 (s_wipe T).2 := by
  have hS0 := hS
  obtain ⟨hT, hM, hB, hTp, hRf, hSh, hK, hTr⟩ := hS
  obtain ⟨o1, o2, o3, o4, o5, o6⟩ := hT.1
  have n8 := hB.n8
  have l8 := hB.l8
  obtain ⟨t1, t2, t3, t4⟩ := hTp
  have kk := k_X8_wipe_0 (d := d + 10) hM.g
  rw [t1] at kk
  have U : Upf (fun i k => (i = m ∧ k = 7) ∨ i = m + 15) h (setI h m 7 0) := Upf.set (Or.inl ⟨rfl, rfl⟩)
  exact ⟨_, jm mi_X8_wipe (Nat.le_of_ble_eq_true rfl) ⟨.int, rfl, rfl⟩ rfl kk, U.mono (fun i k z => by unfold fM; omega), hS0.tap U ⟨by rw [hI_setI]; exact if_pos ⟨rfl, rfl⟩, Nat.zero_le _, fun x hx => absurd hx List.not_mem_nil, fun k hk => absurd hk (Nat.not_lt_zero k)⟩⟩
theorem shf_full {s : Nat} {q : Shf} (hq : mshf h m s q) : hI h (m + 1) s = 0 ↔ q.isSome = false := by
  match q, hq with
  | none, q1 => exact ⟨fun _ => rfl, fun _ => q1⟩
  | some (.inl p), ⟨q1, _⟩ => exact ⟨fun z => by rw [q1] at z; exact absurd z (by decide), fun z => by cases z⟩
  | some (.inr (sort, n, v)), ⟨q1, _⟩ => exact ⟨fun z => by rw [q1] at z; exact absurd z (by decide), fun z => by cases z⟩
theorem v_full {w : Int32} (hM : ModH h m) {F : Nat → Shf} (hF : ∀ s, s < 8 → mshf h m s (F s)) : ∀ n j, 8 - j = n → j ≤ 8 → J mX8_status d 96 [some (.ref m), some (.int w), some (.int (nI (sumN (fun s => if (F s).isSome then 1 else 0) j))), some (.int (nI j))] [] h (some (.int (nI (sumN (fun s => if (F s).isSome then 1 else 0) 8)))) h := by
  intro n
  induction n with
  | zero =>
    intro j hj hl
    have : j = 8 := by omega
    subst this
    exact k_X8_status_96 (fun _ => k_X8_status_125) (fun z => absurd (nI_le (a := 8) (b := 8) (by omega) (by omega)) z)
  | succ n ih =>
    intro j hj hl
    have hjl : j < 8 := by omega
    have nx := ih (j + 1) (by omega) (by omega)
    have sf := shf_full (hF j hjl)
    have es : sumN (fun s => if (F s).isSome then 1 else 0) (j + 1) = sumN (fun s => if (F s).isSome then 1 else 0) j + (if (F j).isSome = true then 1 else 0) := rfl
    rw [es] at nx
    refine k_X8_status_96 (fun q => absurd q (nI_ge (b := 8) hjl (by omega))) (fun _ => k_X8_status_102 hM.g hM.r0 hM.g0 (vp_in_nI (by omega) (by omega)) (fun q => ?_) (fun q => ?_))
    · rw [nI_clamp (by omega), sf] at q
      rw [q, if_neg (by decide)] at nx
      refine k_X8_status_116 (k_X8_status_117 ?_)
      rw [show (0 : Int32) = nI 0 from rfl, nI_add, nI_1]
      exact nx
    · rw [nI_clamp (by omega), sf, Bool.not_eq_false] at q
      rw [q, if_pos rfl] at nx
      refine k_X8_status_112 (k_X8_status_117 ?_)
      rw [nI_1, nI_1]
      exact nx
theorem m_status {w : Int32} (hS : MS h m ko to T) : JMt mX8_status (some .int) (d + 10) [.ref m, .int w] h (some (.int (a_status T w))) h := by
  have hS0 := hS
  obtain ⟨hT, hM, hB, hTp, hRf, hSh, hK, hTr⟩ := hS
  obtain ⟨o1, o2, o3, o4, o5, o6⟩ := hT.1
  have n8 := hB.n8
  have l8 := hB.l8
  obtain ⟨t1, t2, t3, t4⟩ := hTp
  unfold a_status
  cases hb : inB w 0 8 with
  | true =>
    rw [if_pos rfl]
    obtain ⟨w, hw, rfl⟩ := inB_nI (n := 8) (by omega) hb
    rw [nn_I (by omega)]
    have ww : (nI w).toInt = w := nI_toInt (by omega)
    rcases le8 hw with rfl | rfl | rfl | rfl | rfl | rfl | rfl | rfl | rfl
    · exact jm mi_X8_status (Nat.le_of_ble_eq_true rfl) ⟨.int, rfl, rfl⟩ rfl (k_X8_status_0 (fun z => absurd z (by omega)) (fun _ => ji hB.n (k_X8_status_52 hM.g)) (fun z => absurd z (by decide)) (fun z => absurd z (by decide)) (fun z => absurd z (by decide)) (fun z => absurd z (by decide)) (fun z => absurd z (by decide)) (fun z => absurd z (by decide)) (fun z => absurd z (by decide)) (fun z => absurd z (by decide)))
    · exact jm mi_X8_status (Nat.le_of_ble_eq_true rfl) ⟨.int, rfl, rfl⟩ rfl (k_X8_status_0 (fun z => absurd z (by omega)) (fun z => absurd z (by decide)) (fun _ => ji hB.sz (k_X8_status_57 hM.g)) (fun z => absurd z (by decide)) (fun z => absurd z (by decide)) (fun z => absurd z (by decide)) (fun z => absurd z (by decide)) (fun z => absurd z (by decide)) (fun z => absurd z (by decide)) (fun z => absurd z (by decide)))
    · exact jm mi_X8_status (Nat.le_of_ble_eq_true rfl) ⟨.int, rfl, rfl⟩ rfl (k_X8_status_0 (fun z => absurd z (by omega)) (fun z => absurd z (by decide)) (fun z => absurd z (by decide)) (fun _ => ji hB.wi (k_X8_status_62 hM.g)) (fun z => absurd z (by decide)) (fun z => absurd z (by decide)) (fun z => absurd z (by decide)) (fun z => absurd z (by decide)) (fun z => absurd z (by decide)) (fun z => absurd z (by decide)))
    · exact jm mi_X8_status (Nat.le_of_ble_eq_true rfl) ⟨.int, rfl, rfl⟩ rfl (k_X8_status_0 (fun z => absurd z (by omega)) (fun z => absurd z (by decide)) (fun z => absurd z (by decide)) (fun z => absurd z (by decide)) (fun _ => ji hB.mo (k_X8_status_67 hM.g)) (fun z => absurd z (by decide)) (fun z => absurd z (by decide)) (fun z => absurd z (by decide)) (fun z => absurd z (by decide)) (fun z => absurd z (by decide)))
    · exact jm mi_X8_status (Nat.le_of_ble_eq_true rfl) ⟨.int, rfl, rfl⟩ rfl (k_X8_status_0 (fun z => absurd z (by omega)) (fun z => absurd z (by decide)) (fun z => absurd z (by decide)) (fun z => absurd z (by decide)) (fun z => absurd z (by decide)) (fun _ => ji hB.da (k_X8_status_72 hM.g)) (fun z => absurd z (by decide)) (fun z => absurd z (by decide)) (fun z => absurd z (by decide)) (fun z => absurd z (by decide)))
    · exact jm mi_X8_status (Nat.le_of_ble_eq_true rfl) ⟨.int, rfl, rfl⟩ rfl (k_X8_status_0 (fun z => absurd z (by omega)) (fun z => absurd z (by decide)) (fun z => absurd z (by decide)) (fun z => absurd z (by decide)) (fun z => absurd z (by decide)) (fun z => absurd z (by decide)) (fun _ => ji hB.fa (k_X8_status_77 hM.g)) (fun z => absurd z (by decide)) (fun z => absurd z (by decide)) (fun z => absurd z (by decide)))
    · exact jm mi_X8_status (Nat.le_of_ble_eq_true rfl) ⟨.int, rfl, rfl⟩ rfl (k_X8_status_0 (fun z => absurd z (by omega)) (fun z => absurd z (by decide)) (fun z => absurd z (by decide)) (fun z => absurd z (by decide)) (fun z => absurd z (by decide)) (fun z => absurd z (by decide)) (fun z => absurd z (by decide)) (fun _ => ji t1 (k_X8_status_82 hM.g)) (fun z => absurd z (by decide)) (fun z => absurd z (by decide)))
    · exact jm mi_X8_status (Nat.le_of_ble_eq_true rfl) ⟨.int, rfl, rfl⟩ rfl (k_X8_status_0 (fun z => absurd z (by omega)) (fun z => absurd z (by decide)) (fun z => absurd z (by decide)) (fun z => absurd z (by decide)) (fun z => absurd z (by decide)) (fun z => absurd z (by decide)) (fun z => absurd z (by decide)) (fun z => absurd z (by decide)) (fun _ => ji hB.se (k_X8_status_87 hM.g)) (fun z => absurd z (by decide)))
    · exact jm mi_X8_status (Nat.le_of_ble_eq_true rfl) ⟨.int, rfl, rfl⟩ rfl (k_X8_status_0 (fun z => absurd z (by omega)) (fun z => absurd z (by decide)) (fun z => absurd z (by decide)) (fun z => absurd z (by decide)) (fun z => absurd z (by decide)) (fun z => absurd z (by decide)) (fun z => absurd z (by decide)) (fun z => absurd z (by decide)) (fun z => absurd z (by decide)) (fun _ => k_X8_status_92 (v_full hM hSh _ 0 rfl (Nat.zero_le _))))
  | false =>
    have hb' := of_decide_eq_false hb
    rw [if_neg (by decide)]
    have no : ∀ k : Nat, k ≤ 8 → w ≠ nI k := fun k hk e => hb' (by rw [e, nI_toInt (by omega)]; omega)
    have ent : ∀ {v : Int32}, J mX8_status (d + 10) 127 [some (.ref m), some (.int w), none, none] [] h (some (.int v)) h → JMt mX8_status (some .int) (d + 10) [.ref m, .int w] h (some (.int v)) h := fun kk => jm mi_X8_status (Nat.le_of_ble_eq_true rfl) ⟨.int, rfl, rfl⟩ rfl (k_X8_status_0 (fun _ => kk) (fun z => absurd z (no 0 (by omega))) (fun z => absurd z (no 1 (by omega))) (fun z => absurd z (no 2 (by omega))) (fun z => absurd z (no 3 (by omega))) (fun z => absurd z (no 4 (by omega))) (fun z => absurd z (no 5 (by omega))) (fun z => absurd z (no 6 (by omega))) (fun z => absurd z (no 7 (by omega))) (fun z => absurd z (no 8 (by omega))))
    cases hb2 : inB w 12 16 with
    | false =>
      rw [if_neg (by decide)]
      exact ent (k_X8_status_127 t_in_12_16 (Or.inl rfl) (fun _ => k_X8_status_153 k_X8_status_154) (fun z => absurd z (by rw [hb2]; decide)))
    | true =>
      rw [if_pos rfl]
      have h2 := of_decide_eq_true hb2
      obtain ⟨w, hw, rfl⟩ := inr (x := w) (n := 17) (by rw [lt0I]; omega) (by omega)
      rw [nI_toInt (by omega)] at h2
      rw [nn_I (by omega)]
      have e : nI w - (10 : Int32) = nI (w - 10) := by rw [show (10 : Int32) = nI 10 from rfl, pk_sub (by omega)]
      refine ent (k_X8_status_127 t_in_12_16 (Or.inl rfl) (fun z => absurd z (by rw [hb2]; decide)) (fun _ => k_X8_status_141 hM.g hM.r8 hM.g8 (by rw [e]; exact (vp_in_nI (by omega) (by omega))) (ji ?_ k_X8_status_154)))
      rw [e, nI_clamp (by omega), show w - 10 = (w - 12) + 2 by omega]
      exact hRf _ (by omega)
end SU
