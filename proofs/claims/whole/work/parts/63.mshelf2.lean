/-! shelves of the reference, 2: copy, element, holds, show, says; told climbs -/
section SW
variable {d : Nat} {h : PH} {m : Nat} {ko to : Option Nat} {T : TS}
theorem m_element {s i : Int32} (hS : MS h m ko to T) : JMt mX8_element (some .long) (d + 10) [.ref m, .int s, .int i] h (some (.long (a_element T s i))) h := by
  have hS0 := hS
  obtain ⟨hT, hM, hB, hTp, hRf, hSh, hK, hTr⟩ := hS
  obtain ⟨o1, o2, o3, o4, o5, o6⟩ := hT.1
  have n8 := hB.n8
  have l8 := hB.l8
  unfold a_element
  cases hb : inB s 0 7 with
  | false =>
    have : shfA T s = none := by unfold shfA; rw [hb]; rfl
    rw [this]
    exact jm mi_X8_element (Nat.le_of_ble_eq_true rfl) rfl rfl (k_X8_element_0 t_in_0_7 (Or.inl rfl) (fun _ => k_X8_element_51 k_X8_element_52) (fun z => absurd z (by rw [hb]; decide)))
  | true =>
    obtain ⟨k, hk, rfl⟩ := inB_nI (n := 7) (by omega) hb
    rw [shfA_in (by omega)]
    have hq := hSh k (by omega)
    have ci : (nI k).toNatClampNeg = k := nI_clamp (by omega)
    generalize T.2.2.1 k = q at hq
    match q, hq with
    | none, q1 =>
      have q1 : hI h (m + 1) k = 0 := q1
      exact jm mi_X8_element (Nat.le_of_ble_eq_true rfl) rfl rfl (k_X8_element_0 t_in_0_7 (Or.inl rfl) (fun z => absurd z (by rw [hb]; decide)) (fun _ => k_X8_element_12 hM.g hM.r0 hM.g0 (vp_in_nI (by omega) (by omega)) (fun _ => k_X8_element_51 k_X8_element_52) (fun z => absurd z (by rw [ci, q1]; decide))))
    | some (.inl p), ⟨q1, _⟩ =>
      exact jm mi_X8_element (Nat.le_of_ble_eq_true rfl) rfl rfl (k_X8_element_0 t_in_0_7 (Or.inl rfl) (fun z => absurd z (by rw [hb]; decide)) (fun _ => k_X8_element_12 hM.g hM.r0 hM.g0 (vp_in_nI (by omega) (by omega)) (fun _ => k_X8_element_51 k_X8_element_52) (fun z => absurd z (by rw [ci, q1]; decide))))
    | some (.inr (sort, n, v)), ⟨q1, q2, q3, q4, q5, q6⟩ =>
      have hi : JMt mX8_in (some .boolean) (d + 9) [.long i.toInt64, .long (0 : Int64), .long ((hI h (m + 3) (nI k).toNatClampNeg - (1 : Int32)).toInt64)] h (some (.int (bI (inB i 0 ((n : Int) - 1))))) h := by
        rw [ci, q3]; exact t_inI rfl (nI_pre1 (by omega))
      show JMt mX8_element (some .long) (d + 10) [.ref m, .int (nI k), .int i] h (some (.long (cellI n v i))) h
      unfold cellI
      cases hc : inB i 0 ((n : Int) - 1) with
      | false =>
        have hc' := of_decide_eq_false hc
        rw [if_neg (by rw [lt0I, ltLit (by omega)]; omega)]
        exact jm mi_X8_element (Nat.le_of_ble_eq_true rfl) rfl rfl (k_X8_element_0 t_in_0_7 (Or.inl rfl) (fun z => absurd z (by rw [hb]; decide)) (fun _ => k_X8_element_12 hM.g hM.r0 hM.g0 (vp_in_nI (by omega) (by omega)) (fun z => absurd (by rw [ci]; exact q1) z) (fun _ => k_X8_element_22 hM.g hM.r2 hM.g2 (vp_in_nI (by omega) (by omega)) hi (Or.inl rfl) (fun _ => k_X8_element_51 k_X8_element_52) (fun z => absurd z (by rw [hc]; decide)))))
      | true =>
        have hc' := of_decide_eq_true hc
        rw [if_pos (by rw [lt0I, ltLit (by omega)]; omega)]
        obtain ⟨j, hj, rfl⟩ := inr (x := i) (n := n) (by rw [lt0I]; omega) (by omega)
        have cj : (nI j).toNatClampNeg = j := nI_clamp (by omega)
        have fin : J mX8_element (d + 10) 52 [some (.ref m), some (.int (nI k)), some (.int (nI j))] [.long (hL h (m + 5 + k) (nI j).toNatClampNeg)] h (some (.long (v (nI j).toNatClampNeg))) h := by
          rw [cj, q6 j hj]; exact k_X8_element_52
        exact jm mi_X8_element (Nat.le_of_ble_eq_true rfl) rfl rfl (k_X8_element_0 t_in_0_7 (Or.inl rfl) (fun z => absurd z (by rw [hb]; decide)) (fun _ => k_X8_element_12 hM.g hM.r0 hM.g0 (vp_in_nI (by omega) (by omega)) (fun z => absurd (by rw [ci]; exact q1) z) (fun _ => k_X8_element_22 hM.g hM.r2 hM.g2 (vp_in_nI (by omega) (by omega)) hi (Or.inl rfl) (fun z => absurd z (by rw [hc]; decide)) (fun _ => k_X8_element_40 hM.g hM.r3 hM.g3 (by decide) (vp_in_nI (by omega) (by omega)) (by rw [ci]; exact hM.rw (by omega)) (hM.gw (by omega)) (vp_in_nI (by omega) (by omega)) fin))))
theorem m_holds {s : Int32} (hS : MS h m ko to T) : JMt mX8_holds (some .int) (d + 10) [.ref m, .int s] h (some (.int (a_holds T s))) h := by
  have hS0 := hS
  obtain ⟨hT, hM, hB, hTp, hRf, hSh, hK, hTr⟩ := hS
  obtain ⟨o1, o2, o3, o4, o5, o6⟩ := hT.1
  have n8 := hB.n8
  have l8 := hB.l8
  unfold a_holds
  cases hb : inB s 0 7 with
  | false =>
    have : shfA T s = none := by unfold shfA; rw [hb]; rfl
    rw [this]
    exact jm mi_X8_holds (Nat.le_of_ble_eq_true rfl) ⟨.int, rfl, rfl⟩ rfl (k_X8_holds_0 t_in_0_7 (Or.inl rfl) (fun _ => k_X8_holds_21) (fun z => absurd z (by rw [hb]; decide)))
  | true =>
    obtain ⟨k, hk, rfl⟩ := inB_nI (n := 7) (by omega) hb
    rw [shfA_in (by omega)]
    have hq := hSh k (by omega)
    have ci : (nI k).toNatClampNeg = k := nI_clamp (by omega)
    generalize T.2.2.1 k = q at hq
    match q, hq with
    | none, q1 =>
      have q1 : hI h (m + 1) k = 0 := q1
      exact jm mi_X8_holds (Nat.le_of_ble_eq_true rfl) ⟨.int, rfl, rfl⟩ rfl (k_X8_holds_0 t_in_0_7 (Or.inl rfl) (fun z => absurd z (by rw [hb]; decide)) (fun _ => k_X8_holds_12 hM.g hM.r0 hM.g0 (vp_in_nI (by omega) (by omega)) (fun z => absurd (by rw [ci]; exact q1) z) (fun _ => k_X8_holds_21)))
    | some (.inl p), ⟨q1, q2⟩ =>
      exact jm mi_X8_holds (Nat.le_of_ble_eq_true rfl) ⟨.int, rfl, rfl⟩ rfl (k_X8_holds_0 t_in_0_7 (Or.inl rfl) (fun z => absurd z (by rw [hb]; decide)) (fun _ => k_X8_holds_12 hM.g hM.r0 hM.g0 (vp_in_nI (by omega) (by omega)) (fun _ => k_X8_holds_23 hM.g hM.r0 hM.g0 (vp_in_nI (by omega) (by omega)) (fun _ => k_X8_holds_42 hM.g hM.r5 hM.g5 (vp_in_nI (by omega) (by omega)) (ji (by rw [ci, q2, show (10 : Int32) = nI 10 from rfl, nI_add]) k_X8_holds_51)) (fun z => absurd z (by rw [ci, q1]; decide))) (fun z => absurd z (by rw [ci, q1]; decide))))
    | some (.inr (sort, n, v)), ⟨q1, q2, _⟩ =>
      exact jm mi_X8_holds (Nat.le_of_ble_eq_true rfl) ⟨.int, rfl, rfl⟩ rfl (k_X8_holds_0 t_in_0_7 (Or.inl rfl) (fun z => absurd z (by rw [hb]; decide)) (fun _ => k_X8_holds_12 hM.g hM.r0 hM.g0 (vp_in_nI (by omega) (by omega)) (fun _ => k_X8_holds_23 hM.g hM.r0 hM.g0 (vp_in_nI (by omega) (by omega)) (fun z => absurd (by rw [ci]; exact q1) z) (fun _ => k_X8_holds_33 hM.g hM.r1 hM.g1 (vp_in_nI (by omega) (by omega)) (ji (by rw [ci]; exact q2) k_X8_holds_51))) (fun z => absurd z (by rw [ci, q1]; decide))))
theorem m_show {s p : Int32} (hS : MS h m ko to T) : RfL mX8_show (d + 10) [.ref m, .int s, .int p] h m ko to (s_show T s p).1 (s_show T s p).2 := by
  have hS0 := hS
  obtain ⟨hT, hM, hB, hTp, hRf, hSh, hK, hTr⟩ := hS
  obtain ⟨o1, o2, o3, o4, o5, o6⟩ := hT.1
  have n8 := hB.n8
  have l8 := hB.l8
  unfold s_show
  cases hb : inB s 0 7 with
  | false =>
    rw [Bool.false_and, if_neg (by decide)]
    exact (muR (k := 0) (by omega) hS0 (fun h1 r e => jm mi_X8_show (Nat.le_of_ble_eq_true rfl) ⟨.int, rfl, rfl⟩ rfl (k_X8_show_0 t_in_0_7 (Or.inl rfl) (fun _ => k_X8_show_26 r (Or.inl e) hM.g) (fun z => absurd z (by rw [hb]; decide))))).l
  | true =>
    rw [Bool.true_and]
    obtain ⟨k, hk, rfl⟩ := inB_nI (n := 7) (by omega) hb
    rw [nn_I (k := k) (by omega)]
    have ci : (nI k).toNatClampNeg = k := nI_clamp (by omega)
    have vi : vp_in (nI k) 8 := (vp_in_nI (by omega) (by omega))
    have U : ∀ x y : Int32, Upr (fH m k) (gH m k) h (setI (setI h (m + 1) (nI k).toNatClampNeg x) (m + 14) (nI k).toNatClampNeg y) := fun x y => by
      rw [ci]; exact Upf.upr ((Upf.set ⟨Or.inl rfl, rfl⟩).st ⟨Or.inr (Or.inr (Or.inr rfl)), rfl⟩)
    by_cases hm1 : p = -1
    · subst hm1
      rw [if_pos (by rfl), if_pos (by rfl)]
      exact rlS hS0 (by omega) (jm mi_X8_show (Nat.le_of_ble_eq_true rfl) ⟨.int, rfl, rfl⟩ rfl (k_X8_show_0 t_in_0_7 (Or.inl rfl) (fun z => absurd z (by rw [hb]; decide)) (fun _ => k_X8_show_12 (fun _ => k_X8_show_34 hM.g hM.r0 (fun z => absurd rfl z) (fun _ => k_X8_show_44 (k_X8_show_49 hM.g0 vi hM.g hM.r5 hM.g5 vi))) (fun z => absurd rfl z)))) (U 0 (-1)) (by
        show hI _ (m + 1) k = 0
        rw [ci, hI_setI, if_neg (by omega), hI_setI, if_pos ⟨rfl, rfl⟩]) (fun p z => by cases z)
    · have hne : ¬ p.toInt = -1 := fun z => hm1 (Int32.toInt_inj.mp (by rw [z]; rfl))
      rw [decide_eq_false hne, Bool.false_or, if_neg hne]
      cases hp : hasB T.1.1.length p with
      | false =>
        rw [if_neg (by decide)]
        exact (muR (k := 0) (by omega) hS0 (fun h1 r e => jm mi_X8_show (Nat.le_of_ble_eq_true rfl) ⟨.int, rfl, rfl⟩ rfl (k_X8_show_0 t_in_0_7 (Or.inl rfl) (fun z => absurd z (by rw [hb]; decide)) (fun _ => k_X8_show_12 (fun z => absurd z hm1) (fun _ => k_X8_show_17 (t_isPerson hM hB) (Or.inl rfl) hM.g (fun z => absurd z (by rw [hp]; decide)) (fun _ => k_X8_show_26 r (Or.inl e) hM.g)))))).l
      | true =>
        rw [if_pos rfl]
        obtain ⟨i, hi, rfl⟩ := hasB_nI hp
        rw [nn_I (by omega)]
        refine rlS hS0 (by omega) (jm mi_X8_show (Nat.le_of_ble_eq_true rfl) ⟨.int, rfl, rfl⟩ rfl (k_X8_show_0 t_in_0_7 (Or.inl rfl) (fun z => absurd z (by rw [hb]; decide)) (fun _ => k_X8_show_12 (fun z => absurd z hm1) (fun _ => k_X8_show_17 (t_isPerson hM hB) (Or.inl rfl) hM.g (fun _ => k_X8_show_34 hM.g hM.r0 (fun _ => k_X8_show_48 (k_X8_show_49 hM.g0 vi hM.g hM.r5 hM.g5 vi)) (fun z => absurd z hm1)) (fun z => absurd z (by rw [hp]; decide)))))) (U 2 (nI i)) ⟨?_, ?_⟩ (fun p z => by cases z; exact hi)
        · rw [ci, hI_setI, if_neg (by omega), hI_setI, if_pos ⟨rfl, rfl⟩]
        · rw [ci, hI_setI, if_pos ⟨rfl, rfl⟩]
theorem u_isUnder {k w : Nat} (hk : k ≤ 5) (hw : w ≤ 5) : JMt mX8_isUnder (some .boolean) d [.int (nI k), .int (nI w)] h (some (.int (bI (undB k w)))) h := by
  have yes : undB k w = true → J mX8_isUnder d 29 [some (.int (nI k)), some (.int (nI w))] [] h (some (.int (bI (undB k w)))) h := fun e => by rw [e]; exact k_X8_isUnder_29 k_X8_isUnder_34
  have no : undB k w = false → J mX8_isUnder d 33 [some (.int (nI k)), some (.int (nI w))] [] h (some (.int (bI (undB k w)))) h := fun e => by rw [e]; exact k_X8_isUnder_33 k_X8_isUnder_34
  have e : ∀ a b : Nat, a ≤ 5 → b ≤ 5 → (nI a = nI b ↔ a = b) := fun a b ha hb => nI_eq (by omega) (by omega)
  have w0 := e w 0 hw (by omega)
  have w1 := e w 1 hw (by omega)
  have w2 := e w 2 hw (by omega)
  have k3 := e k 3 hk (by omega)
  have k4 := e k 4 hk (by omega)
  have kw := e k w hk hw
  refine jm mi_X8_isUnder (Nat.le_of_ble_eq_true rfl) rB rfl (k_X8_isUnder_0 (fun q => yes (decide_eq_true (Or.inl (w0.mp q)))) (fun q0 => k_X8_isUnder_4 (fun q => yes (decide_eq_true (Or.inr (Or.inl (kw.mp q))))) (fun q1 => k_X8_isUnder_9 (fun q2 => ?_) (fun q2 => k_X8_isUnder_14 (fun q => yes (decide_eq_true (Or.inr (Or.inr (Or.inl ⟨w1.mp q2, k3.mp q⟩))))) (fun q3 => ?_)))))
  · refine k_X8_isUnder_19 (fun q4 => no (decide_eq_false ?_)) (fun q4 => k_X8_isUnder_24 (fun q5 => no (decide_eq_false ?_)) (fun q5 => yes (decide_eq_true (Or.inr (Or.inr (Or.inr ⟨w2.mp q4, k4.mp q5⟩))))))
    · rintro (z | z | z | z)
      · exact q0 (w0.mpr z)
      · exact q1 (kw.mpr z)
      · exact q2 (w1.mpr z.1)
      · exact q4 (w2.mpr z.1)
    · rintro (z | z | z | z)
      · exact q0 (w0.mpr z)
      · exact q1 (kw.mpr z)
      · exact q2 (w1.mpr z.1)
      · exact q5 (k4.mpr z.2)
  · have hw1 := w1.mp q2
    refine k_X8_isUnder_19 (fun q4 => no (decide_eq_false ?_)) (fun q4 => absurd (w2.mp q4) (by omega))
    rintro (z | z | z | z)
    · omega
    · exact q1 (kw.mpr z)
    · exact q3 (k3.mpr z.2)
    · omega
theorem m_says {s w : Int32} (hS : MS h m ko to T) : RfQ mX8_says (d + 10) [.ref m, .int s, .int w] h m ko to T (q_says T s w) := by
  have hS0 := hS
  obtain ⟨hT, hM, hB, hTp, hRf, hSh, hK, hTr⟩ := hS
  obtain ⟨o1, o2, o3, o4, o5, o6⟩ := hT.1
  have n8 := hB.n8
  have l8 := hB.l8
  unfold q_says
  cases hb : inB s 0 7 with
  | false =>
    rw [Bool.false_and, if_neg (by decide)]
    exact mqR (k := 0) (by omega) hS0 (fun h1 r e => jm mi_X8_says (Nat.le_of_ble_eq_true rfl) ⟨.int, rfl, rfl⟩ rfl (k_X8_says_0 t_in_0_7 (Or.inl rfl) (fun _ => k_X8_says_24 r (Or.inl e) hM.g) (fun z => absurd z (by rw [hb]; decide))))
  | true =>
    rw [Bool.true_and]
    cases hb2 : inB w 0 5 with
    | false =>
      rw [if_neg (by decide)]
      exact mqR (k := 0) (by omega) hS0 (fun h1 r e => jm mi_X8_says (Nat.le_of_ble_eq_true rfl) ⟨.int, rfl, rfl⟩ rfl (k_X8_says_0 t_in_0_7 (Or.inl rfl) (fun z => absurd z (by rw [hb]; decide)) (fun _ => k_X8_says_12 t_in_0_5 (Or.inl rfl) (fun z => absurd z (by rw [hb2]; decide)) (fun _ => k_X8_says_24 r (Or.inl e) hM.g))))
    | true =>
      rw [if_pos rfl]
      obtain ⟨k, hk, rfl⟩ := inB_nI (n := 7) (by omega) hb
      obtain ⟨w, hw, rfl⟩ := inB_nI (n := 5) (by omega) hb2
      rw [shfA_in (by omega), nn_I (by omega)]
      have hq := hSh k (by omega)
      have hpT := fun p => hT.2.2 k (by omega) p
      have ci : (nI k).toNatClampNeg = k := nI_clamp (by omega)
      have ent : ∀ {o : Option Value} {h' : PH}, RetT (some .int) o → J mX8_says (d + 10) 32 [some (.ref m), some (.int (nI k)), some (.int (nI w)), none] [] h o h' → JMt mX8_says (some .int) (d + 10) [.ref m, .int (nI k), .int (nI w)] h o h' := fun rt kk => jm mi_X8_says (Nat.le_of_ble_eq_true rfl) rt rfl (k_X8_says_0 t_in_0_7 (Or.inl rfl) (fun z => absurd z (by rw [hb]; decide)) (fun _ => k_X8_says_12 t_in_0_5 (Or.inl rfl) (fun _ => kk) (fun z => absurd z (by rw [hb2]; decide))))
      generalize T.2.2.1 k = q at hq hpT
      match q, hq, hpT with
      | none, q1, _ =>
        have q1 : hI h (m + 1) k = 0 := q1
        exact mqR (k := 2) (by omega) hS0 (fun h1 r e => ent ⟨.int, rfl, rfl⟩ (k_X8_says_32 hM.g hM.r0 hM.g0 (vp_in_nI (by omega) (by omega)) (fun z => absurd z (by rw [ci, q1]; decide)) (fun _ => k_X8_says_42 hM.g hM.r0 hM.g0 (vp_in_nI (by omega) (by omega)) (fun _ => k_X8_says_78 hM.g hM.r0 hM.g0 (vp_in_nI (by omega) (by omega)) (fun z => absurd (by rw [ci]; exact q1) z) (fun _ => k_X8_says_87 r (Or.inl e) hM.g)) (fun z => absurd z (by rw [ci, q1]; decide)))))
      | some (.inr (sort, n, v)), ⟨q1, _⟩, _ =>
        exact mqR (k := 1) (by omega) hS0 (fun h1 r e => ent ⟨.int, rfl, rfl⟩ (k_X8_says_32 hM.g hM.r0 hM.g0 (vp_in_nI (by omega) (by omega)) (fun _ => k_X8_says_70 r (Or.inl e) hM.g) (fun z => absurd (by rw [ci]; exact q1) z)))
      | some (.inl p), ⟨q1, q2⟩, hpT =>
        have hp := hpT p rfl
        have hok := pg_ok hB.ok p
        have e5 : hI h (m + 14) (nI k).toNatClampNeg = nI p := by rw [ci]; exact q2
        have e6 : hI h (m + 17) (hI h (m + 14) (nI k).toNatClampNeg).toNatClampNeg = nI (pg T.1.1 p).1 := by rw [e5, nI_clamp (by omega)]; exact hB.kd hp
        have hu : JMt mX8_isUnder (some .boolean) (d + 9) [.int (hI h (m + 17) (hI h (m + 14) (nI k).toNatClampNeg).toNatClampNeg), .int (nI w)] h (some (.int (bI (undB (pg T.1.1 p).1 w)))) h := by rw [e6]; exact u_isUnder hok.1 hw
        have ent2 : ∀ {o : Option Value} {h' : PH}, RetT (some .int) o → J mX8_says (d + 10) 52 [some (.ref m), some (.int (nI k)), some (.int (nI w)), none] [] h o h' → JMt mX8_says (some .int) (d + 10) [.ref m, .int (nI k), .int (nI w)] h o h' := fun rt kk => ent rt (k_X8_says_32 hM.g hM.r0 hM.g0 (vp_in_nI (by omega) (by omega)) (fun z => absurd z (by rw [ci, q1]; decide)) (fun _ => k_X8_says_42 hM.g hM.r0 hM.g0 (vp_in_nI (by omega) (by omega)) (fun z => absurd (by rw [ci]; exact q1) z) (fun _ => kk)))
        dsimp only
        cases hund : undB (pg T.1.1 p).1 w with
        | false =>
          rw [if_neg (by decide)]
          exact mqR (k := 1) (by omega) hS0 (fun h1 r e => ent2 ⟨.int, rfl, rfl⟩ (k_X8_says_52 hM.g hM.r14 hM.r5 hM.g5 (vp_in_nI (by omega) (by omega)) hM.g14 (by rw [e5]; exact (vp_in_nI (by omega) (by omega))) hu (Or.inl rfl) (fun z => absurd z (by rw [hund]; decide)) (fun _ => k_X8_says_70 r (Or.inl e) hM.g)))
        | true =>
          rw [if_pos rfl]
          have fin : ∀ {v : Int32}, J mX8_says (d + 10) 95 [some (.ref m), some (.int (nI k)), some (.int (nI w)), none] [] h (some (.int v)) h → RfQ mX8_says (d + 10) [.ref m, .int (nI k), .int (nI w)] h m ko to T (.inr v) := fun kk => mq0 hS0 (ent2 ⟨.int, rfl, rfl⟩ (k_X8_says_52 hM.g hM.r14 hM.r5 hM.g5 (vp_in_nI (by omega) (by omega)) hM.g14 (by rw [e5]; exact (vp_in_nI (by omega) (by omega))) hu (Or.inl rfl) (fun _ => k_X8_says_78 hM.g hM.r0 hM.g0 (vp_in_nI (by omega) (by omega)) (fun _ => kk) (fun z => absurd z (by rw [ci, q1]; decide))) (fun z => absurd z (by rw [hund]; decide))))
          have cp : (nI p).toNatClampNeg = p := nI_clamp (by omega)
          have hh : ∀ {v : Int32}, (¬ nI w = 0 → J mX8_says (d + 10) 115 [some (.ref m), some (.int (nI k)), some (.int (nI w)), some (.int (nI p))] [] h (some (.int v)) h) → (nI w = 0 → J mX8_says (d + 10) 106 [some (.ref m), some (.int (nI k)), some (.int (nI w)), some (.int (nI p))] [] h (some (.int v)) h) → J mX8_says (d + 10) 95 [some (.ref m), some (.int (nI k)), some (.int (nI w)), none] [] h (some (.int v)) h := fun k1 k2 => k_X8_says_95 hM.g hM.r5 hM.g5 (vp_in_nI (by omega) (by omega)) (fun z => by rw [e5]; exact k1 z) (fun z => by rw [e5]; exact k2 z)
          rcases le5 hw with rfl | rfl | rfl | rfl | rfl | rfl
          · exact fin (hh (fun z => absurd rfl z) (fun _ => k_X8_says_106 hM.g hM.r18 hM.g18 (vp_in_nI (by omega) (by omega)) (ji (by rw [cp]; exact hB.ne hp) k_X8_says_151)))
          · exact fin (hh (fun _ => k_X8_says_115 (fun _ => k_X8_says_125 (u_tallness hM hB hp) (Or.inl rfl) hM.g k_X8_says_151) (fun z => absurd rfl z)) (fun z => absurd z (by decide)))
          · exact fin (hh (fun _ => k_X8_says_115 (fun z => absurd z (by decide)) (fun _ => k_X8_says_120 (fun _ => k_X8_says_133 (fun _ => k_X8_says_146 (u_bears hM hB hp) (Or.inl rfl) hM.g k_X8_says_151) (fun z => absurd z (by decide))) (fun z => absurd z (by decide)))) (fun z => absurd z (by decide)))
          · exact fin (hh (fun _ => k_X8_says_115 (fun z => absurd z (by decide)) (fun _ => k_X8_says_120 (fun z => absurd rfl z) (fun _ => k_X8_says_125 (u_tallness hM hB hp) (Or.inl rfl) hM.g k_X8_says_151))) (fun z => absurd z (by decide)))
          · exact fin (hh (fun _ => k_X8_says_115 (fun z => absurd z (by decide)) (fun _ => k_X8_says_120 (fun _ => k_X8_says_133 (fun _ => k_X8_says_146 (u_bears hM hB hp) (Or.inl rfl) hM.g k_X8_says_151) (fun z => absurd z (by decide))) (fun z => absurd z (by decide)))) (fun z => absurd z (by decide)))
          · exact fin (hh (fun _ => k_X8_says_115 (fun z => absurd z (by decide)) (fun _ => k_X8_says_120 (fun _ => k_X8_says_133 (fun z => absurd rfl z) (fun _ => k_X8_says_138 (u_massOf hM hB hp) (Or.inl rfl) hM.g k_X8_says_151)) (fun z => absurd z (by decide)))) (fun z => absurd z (by decide)))
def nkK (T : TS) (s n : Int32) : Option Nat := if inB s 0 7 && inB n 0 40 then (match shfA T s with
  | none => some 2
  | some (.inl _) => some 1
  | some (.inr (_, l, _)) => if nn n ≤ l then none else some 0) else some 0
theorem u_noClimb {s n : Int32} (hS : MS h m ko to T) : ∃ (v : Int32) (h1 : PH), JMt mX8_noClimb (some .int) (d + 2) [.ref m, .int s, .int n] h (some (.int v)) h1 ∧ hn h1 = hn h ∧ (match nkK T s n with
    | none => v = 0 ∧ h1 = h
    | some k => k < 5 ∧ v = rfI k ∧ Upf (fun i _ => i = m + 16) h h1 ∧ MS h1 m ko to (rfT T k)) := by
  have hS0 := hS
  obtain ⟨hT, hM, hB, hTp, hRf, hSh, hK, hTr⟩ := hS
  obtain ⟨o1, o2, o3, o4, o5, o6⟩ := hT.1
  have n8 := hB.n8
  have l8 := hB.l8
  unfold nkK
  cases hb : inB s 0 7 with
  | false =>
    obtain ⟨h1, a, b, c⟩ := u_refuse (k := 0) (d := d + 1) (by omega) hS0
    exact ⟨_, h1, jm mi_X8_noClimb (Nat.le_of_ble_eq_true rfl) ⟨.int, rfl, rfl⟩ rfl (k_X8_noClimb_0 t_in_0_7 (Or.inl rfl) (fun _ => k_X8_noClimb_24 a (Or.inl b.1) hM.g) (fun z => absurd z (by rw [hb]; decide))), b.1, by omega, rfl, b, c⟩
  | true =>
    cases hb2 : inB n 0 40 with
    | false =>
      obtain ⟨h1, a, b, c⟩ := u_refuse (k := 0) (d := d + 1) (by omega) hS0
      exact ⟨_, h1, jm mi_X8_noClimb (Nat.le_of_ble_eq_true rfl) ⟨.int, rfl, rfl⟩ rfl (k_X8_noClimb_0 t_in_0_7 (Or.inl rfl) (fun z => absurd z (by rw [hb]; decide)) (fun _ => k_X8_noClimb_12 t_in_0_40 (Or.inl rfl) (fun z => absurd z (by rw [hb2]; decide)) (fun _ => k_X8_noClimb_24 a (Or.inl b.1) hM.g))), b.1, by omega, rfl, b, c⟩
    | true =>
      rw [Bool.true_and, if_pos rfl]
      obtain ⟨v, h1, a1, a2, a3⟩ := u_noRow (d := d) (s := s) hS0
      have bad : ∀ k, nrK T s = some k → ∃ (v : Int32) (h1 : PH), JMt mX8_noClimb (some .int) (d + 2) [.ref m, .int s, .int n] h (some (.int v)) h1 ∧ hn h1 = hn h ∧ k < 5 ∧ v = rfI k ∧ Upf (fun i _ => i = m + 16) h h1 ∧ MS h1 m ko to (rfT T k) := fun k e => by
        rw [e] at a3
        obtain ⟨hk, rfl, b, c⟩ := a3
        have hr : ∀ k, k < 5 → ¬ rfI k = 0 := by decide
        exact ⟨_, h1, jm mi_X8_noClimb (Nat.le_of_ble_eq_true rfl) ⟨.int, rfl, rfl⟩ rfl (k_X8_noClimb_0 t_in_0_7 (Or.inl rfl) (fun z => absurd z (by rw [hb]; decide)) (fun _ => k_X8_noClimb_12 t_in_0_40 (Or.inl rfl) (fun _ => k_X8_noClimb_32 a1 (Or.inl a2) hM.g (fun y => absurd y (hr k hk)) (fun _ => k_X8_noClimb_42)) (fun z => absurd z (by rw [hb2]; decide)))), a2, hk, rfl, b, c⟩
      have nre : nrK T s = (match shfA T s with
        | none => some 2
        | some (.inl _) => some 1
        | some (.inr _) => none) := by
          unfold nrK
          rw [hb, if_pos rfl]
          rcases shfA T s with _ | (_ | _) <;> rfl
      obtain ⟨k, hk, rfl⟩ := inB_nI (n := 7) (by omega) hb
      obtain ⟨n, hn, rfl⟩ := inB_nI (n := 40) (by omega) hb2
      rw [nn_I (by omega)]
      rw [nre] at bad a3
      rw [shfA_in (by omega)] at bad a3 ⊢
      have hq := hSh k (by omega)
      have ci : (nI k).toNatClampNeg = k := nI_clamp (by omega)
      generalize T.2.2.1 k = q at hq bad a3
      match q, hq, bad, a3 with
      | none, q1, bad, a3 => exact bad 2 rfl
      | some (.inl p), q1, bad, a3 => exact bad 1 rfl
      | some (.inr (sort, l, v')), ⟨q1, q2, q3, q4, q5, q6⟩, _, a3 =>
        obtain ⟨rfl, rfl⟩ := a3
        dsimp only
        by_cases hl : n ≤ l
        · rw [if_pos hl]
          exact ⟨0, h1, jm mi_X8_noClimb (Nat.le_of_ble_eq_true rfl) ⟨.int, rfl, rfl⟩ rfl (k_X8_noClimb_0 t_in_0_7 (Or.inl rfl) (fun z => absurd z (by rw [hb]; decide)) (fun _ => k_X8_noClimb_12 t_in_0_40 (Or.inl rfl) (fun _ => k_X8_noClimb_32 a1 (Or.inl a2) hM.g (fun _ => k_X8_noClimb_44 hM.g hM.r2 hM.g2 (vp_in_nI (by omega) (by omega)) (fun _ => k_X8_noClimb_64 k_X8_noClimb_65) (fun y => absurd (by rw [ci, q3]; exact nI_le hl (by omega)) y)) (fun y => absurd rfl y)) (fun z => absurd z (by rw [hb2]; decide)))), rfl, rfl, rfl⟩
        · rw [if_neg hl]
          obtain ⟨h2, a, b, c⟩ := u_refuse (k := 0) (d := d + 1) (by omega) hS0
          exact ⟨_, h2, jm mi_X8_noClimb (Nat.le_of_ble_eq_true rfl) ⟨.int, rfl, rfl⟩ rfl (k_X8_noClimb_0 t_in_0_7 (Or.inl rfl) (fun z => absurd z (by rw [hb]; decide)) (fun _ => k_X8_noClimb_12 t_in_0_40 (Or.inl rfl) (fun _ => k_X8_noClimb_32 a1 (Or.inl a2) hM.g (fun _ => k_X8_noClimb_44 hM.g hM.r2 hM.g2 (vp_in_nI (by omega) (by omega)) (fun y => absurd y (by rw [ci, q3]; exact nI_ge (by omega) (by omega))) (fun _ => k_X8_noClimb_54 a (Or.inl b.1) hM.g k_X8_noClimb_65)) (fun y => absurd rfl y)) (fun z => absurd z (by rw [hb2]; decide)))), b.1, by omega, rfl, b, c⟩
end SW
