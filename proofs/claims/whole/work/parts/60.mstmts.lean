/-! statements of the reference: people, wind, days, draws -/
section ST
variable {d : Nat} {h : PH} {m : Nat} {ko to : Option Nat} {T : TS}
theorem RfQ.mu {M : JM} {D : Nat} {as : List Value} {k : Nat} (hq : RfQ M D as h m ko to T (.inl k)) : RfU M D as h m ko to (rfI k) (rfT T k) := hq
theorem u_addPerson {σ : WS} {q : Pers} (hM : ModH h m) (hB : MB h m σ) (hl : σ.1.length < 8) (hq : okP q) : ∃ h1, JMt mX8_addPerson none d [.ref m, .int (nI q.1), .int (nI q.2.1), .int (nI q.2.2.1), .int (nI q.2.2.2.1), .int (nI q.2.2.2.2)] h none h1 ∧ Upf (fV m) h h1 ∧ MB h1 m (σ.1 ++ [q], σ.2) := by
  have cn : (nI σ.1.length).toNatClampNeg = σ.1.length := nI_clamp (by omega)
  have e1 : hI (setI h (m + 17) σ.1.length (nI q.1)) m 13 = nI σ.1.length := by rw [hI_setI, if_neg (by omega)]; exact hB.n
  have e2 : hI (setI (setI h (m + 17) σ.1.length (nI q.1)) (m + 18) σ.1.length (nI q.2.1)) m 13 = nI σ.1.length := by rw [hI_setI, if_neg (by omega)]; exact e1
  have e3 : hI (setI (setI (setI h (m + 17) σ.1.length (nI q.1)) (m + 18) σ.1.length (nI q.2.1)) (m + 19) σ.1.length (nI q.2.2.1)) m 13 = nI σ.1.length := by rw [hI_setI, if_neg (by omega)]; exact e2
  have e4 : hI (setI (setI (setI (setI h (m + 17) σ.1.length (nI q.1)) (m + 18) σ.1.length (nI q.2.1)) (m + 19) σ.1.length (nI q.2.2.1)) (m + 20) σ.1.length (nI q.2.2.2.1)) m 13 = nI σ.1.length := by rw [hI_setI, if_neg (by omega)]; exact e3
  have e5 : hI (setI (setI (setI (setI (setI h (m + 17) σ.1.length (nI q.1)) (m + 18) σ.1.length (nI q.2.1)) (m + 19) σ.1.length (nI q.2.2.1)) (m + 20) σ.1.length (nI q.2.2.2.1)) (m + 21) σ.1.length (nI q.2.2.2.2)) m 13 = nI σ.1.length := by rw [hI_setI, if_neg (by omega)]; exact e4
  have vi : vp_in (nI σ.1.length) 8 := (vp_in_nI (by omega) (by omega))
  have := k_X8_addPerson_0 (d := d) (h := h) (a1 := nI q.1) (a2 := nI q.2.1) (a3 := nI q.2.2.1) (a4 := nI q.2.2.2.1) (a5 := nI q.2.2.2.2) hM.g hM.r14 hM.g14 (by rw [hB.n]; exact vi) hM.r15 hM.g15 (by simp only [hB.n, cn, e1]; exact vi) hM.r16 hM.g16 (by simp only [hB.n, cn, e1, e2]; exact vi) hM.r17 hM.g17 (by simp only [hB.n, cn, e1, e2, e3]; exact vi) hM.r18 hM.g18 (by simp only [hB.n, cn, e1, e2, e3, e4]; exact vi)
  simp only [hB.n, cn, e1, e2, e3, e4, e5, nI_1] at this
  have U : Upf (fun i k => (m + 17 ≤ i ∧ i ≤ m + 21 ∧ k = σ.1.length) ∨ (i = m ∧ k = 13)) h (setI (setI (setI (setI (setI (setI h (m + 17) σ.1.length (nI q.1)) (m + 18) σ.1.length (nI q.2.1)) (m + 19) σ.1.length (nI q.2.2.1)) (m + 20) σ.1.length (nI q.2.2.2.1)) (m + 21) σ.1.length (nI q.2.2.2.2)) m 13 (nI (σ.1.length + 1))) :=
    (((((Upf.set (Or.inl ⟨by omega, by omega, rfl⟩)).st (Or.inl ⟨by omega, by omega, rfl⟩)).st (Or.inl ⟨by omega, by omega, rfl⟩)).st (Or.inl ⟨by omega, by omega, rfl⟩)).st (Or.inl ⟨by omega, by omega, rfl⟩)).st (Or.inr ⟨rfl, rfl⟩)
  have hlen : (σ.1 ++ [q]).length = σ.1.length + 1 := by rw [List.length_append]; rfl
  refine ⟨_, jm mi_X8_addPerson (Nat.le_of_ble_eq_true rfl) rfl rfl this, U.mono (fun i k z => by unfold fV; omega), ⟨by rw [hI_setI, if_pos ⟨rfl, rfl⟩, hlen], by rw [hlen]; omega, fun r hr => ?_, fun x hx => ?_⟩, hB.2.1.of (fun i k z => U.ii (by omega)), hB.2.2.of (fun i k z => U.ii (by omega))⟩
  · rcases List.mem_append.mp hr with z | z
    · exact hB.ok r z
    · rw [List.mem_singleton.mp z]; exact hq
  · rw [hlen] at hx
    rw [pg_snoc]
    by_cases hxl : x < σ.1.length
    · rw [if_pos hxl, U.ii (i := m + 17) (by omega), U.ii (i := m + 18) (by omega), U.ii (i := m + 19) (by omega), U.ii (i := m + 20) (by omega), U.ii (i := m + 21) (by omega)]
      exact hB.1.2.2.2 x hxl
    · have : x = σ.1.length := by omega
      subst this
      rw [if_neg hxl, if_pos rfl]
      refine ⟨?_, ?_, ?_, ?_, ?_⟩
      · rw [hI_setI, if_neg (by omega), hI_setI, if_neg (by omega), hI_setI, if_neg (by omega), hI_setI, if_neg (by omega), hI_setI, if_neg (by omega), hI_setI, if_pos ⟨rfl, rfl⟩]
      · rw [hI_setI, if_neg (by omega), hI_setI, if_neg (by omega), hI_setI, if_neg (by omega), hI_setI, if_neg (by omega), hI_setI, if_pos ⟨rfl, rfl⟩]
      · rw [hI_setI, if_neg (by omega), hI_setI, if_neg (by omega), hI_setI, if_neg (by omega), hI_setI, if_pos ⟨rfl, rfl⟩]
      · rw [hI_setI, if_neg (by omega), hI_setI, if_neg (by omega), hI_setI, if_pos ⟨rfl, rfl⟩]
      · rw [hI_setI, if_neg (by omega), hI_setI, if_pos ⟨rfl, rfl⟩]
theorem m_person {k a w s n : Int32} (hS : MS h m ko to T) : RfU mX8_person (d + 10) [.ref m, .int k, .int a, .int w, .int s, .int n] h m ko to (s_person T k a w s n).1 (s_person T k a w s n).2 := by
  have hS0 := hS
  obtain ⟨hT, hM, hB, hTp, hRf, hSh, hK, hTr⟩ := hS
  obtain ⟨o1, o2, o3, o4, o5, o6⟩ := hT.1
  have n8 := hB.n8
  have l8 := hB.l8
  unfold s_person
  have b0 : mayB 0 k.toInt = inB k 0 5 := rfl
  have b1 : mayB 1 a.toInt = inB a 0 9 := rfl
  have b2 : mayB 2 w.toInt = inB w 1 40 := rfl
  have b3 : mayB 3 s.toInt = inB s 0 99 := rfl
  have b4 : mayB 4 n.toInt = inB n 0 40 := rfl
  rw [b0, b1, b2, b3, b4]
  cases h0 : inB k 0 5 with
  | false =>
    rw [Bool.false_and, Bool.false_and, Bool.false_and, Bool.false_and, if_neg (by decide)]
    exact muR (k := 0) (by omega) hS0 (fun h1 r e => jm mi_X8_person (Nat.le_of_ble_eq_true rfl) ⟨.int, rfl, rfl⟩ rfl (k_X8_person_0 t_in_0_5 (Or.inl rfl) (fun _ => k_X8_person_62 r (Or.inl e) hM.g) (fun z => absurd z (by rw [h0]; decide))))
  | true =>
    rw [Bool.true_and]
    cases h1 : inB a 0 9 with
    | false =>
      rw [Bool.false_and, Bool.false_and, Bool.false_and, if_neg (by decide)]
      exact muR (k := 0) (by omega) hS0 (fun h' r e => jm mi_X8_person (Nat.le_of_ble_eq_true rfl) ⟨.int, rfl, rfl⟩ rfl (k_X8_person_0 t_in_0_5 (Or.inl rfl) (fun z => absurd z (by rw [h0]; decide)) (fun _ => k_X8_person_12 t_in_0_9 (Or.inl rfl) (fun _ => k_X8_person_62 r (Or.inl e) hM.g) (fun z => absurd z (by rw [h1]; decide)))))
    | true =>
      rw [Bool.true_and]
      cases h2 : inB w 1 40 with
      | false =>
        rw [Bool.false_and, Bool.false_and, if_neg (by decide)]
        exact muR (k := 0) (by omega) hS0 (fun h' r e => jm mi_X8_person (Nat.le_of_ble_eq_true rfl) ⟨.int, rfl, rfl⟩ rfl (k_X8_person_0 t_in_0_5 (Or.inl rfl) (fun z => absurd z (by rw [h0]; decide)) (fun _ => k_X8_person_12 t_in_0_9 (Or.inl rfl) (fun z => absurd z (by rw [h1]; decide)) (fun _ => k_X8_person_24 t_in_1_40 (Or.inl rfl) (fun _ => k_X8_person_62 r (Or.inl e) hM.g) (fun z => absurd z (by rw [h2]; decide))))))
      | true =>
        rw [Bool.true_and]
        cases h3 : inB s 0 99 with
        | false =>
          rw [Bool.false_and, if_neg (by decide)]
          exact muR (k := 0) (by omega) hS0 (fun h' r e => jm mi_X8_person (Nat.le_of_ble_eq_true rfl) ⟨.int, rfl, rfl⟩ rfl (k_X8_person_0 t_in_0_5 (Or.inl rfl) (fun z => absurd z (by rw [h0]; decide)) (fun _ => k_X8_person_12 t_in_0_9 (Or.inl rfl) (fun z => absurd z (by rw [h1]; decide)) (fun _ => k_X8_person_24 t_in_1_40 (Or.inl rfl) (fun z => absurd z (by rw [h2]; decide)) (fun _ => k_X8_person_36 t_in_0_99 (Or.inl rfl) (fun _ => k_X8_person_62 r (Or.inl e) hM.g) (fun z => absurd z (by rw [h3]; decide)))))))
        | true =>
          rw [Bool.true_and]
          cases h4 : inB n 0 40 with
          | false =>
            rw [if_neg (by decide)]
            exact muR (k := 0) (by omega) hS0 (fun h' r e => jm mi_X8_person (Nat.le_of_ble_eq_true rfl) ⟨.int, rfl, rfl⟩ rfl (k_X8_person_0 t_in_0_5 (Or.inl rfl) (fun z => absurd z (by rw [h0]; decide)) (fun _ => k_X8_person_12 t_in_0_9 (Or.inl rfl) (fun z => absurd z (by rw [h1]; decide)) (fun _ => k_X8_person_24 t_in_1_40 (Or.inl rfl) (fun z => absurd z (by rw [h2]; decide)) (fun _ => k_X8_person_36 t_in_0_99 (Or.inl rfl) (fun z => absurd z (by rw [h3]; decide)) (fun _ => k_X8_person_49 t_in_0_40 (Or.inl rfl) (fun z => absurd z (by rw [h4]; decide)) (fun _ => k_X8_person_62 r (Or.inl e) hM.g)))))))
          | true =>
            rw [if_pos rfl]
            have ent : ∀ {o : Option Value} {h' : PH}, RetT (some .int) o → J mX8_person (d + 10) 70 [some (.ref m), some (.int k), some (.int a), some (.int w), some (.int s), some (.int n)] [] h o h' → JMt mX8_person (some .int) (d + 10) [.ref m, .int k, .int a, .int w, .int s, .int n] h o h' := fun rt kk => jm mi_X8_person (Nat.le_of_ble_eq_true rfl) rt rfl (k_X8_person_0 t_in_0_5 (Or.inl rfl) (fun z => absurd z (by rw [h0]; decide)) (fun _ => k_X8_person_12 t_in_0_9 (Or.inl rfl) (fun z => absurd z (by rw [h1]; decide)) (fun _ => k_X8_person_24 t_in_1_40 (Or.inl rfl) (fun z => absurd z (by rw [h2]; decide)) (fun _ => k_X8_person_36 t_in_0_99 (Or.inl rfl) (fun z => absurd z (by rw [h3]; decide)) (fun _ => k_X8_person_49 t_in_0_40 (Or.inl rfl) (fun _ => kk) (fun z => absurd z (by rw [h4]; decide)))))))
            by_cases hl : T.1.1.length < 8
            · rw [if_pos hl]
              obtain ⟨k, hk, rfl⟩ := inB_nI (n := 5) (by omega) h0
              obtain ⟨a, ha, rfl⟩ := inB_nI (n := 9) (by omega) h1
              obtain ⟨w, hw, rfl⟩ := inr (x := w) (n := 41) (by rw [lt0I]; have := of_decide_eq_true h2; omega) (by have := of_decide_eq_true h2; omega)
              have hw1 := of_decide_eq_true h2
              rw [nI_toInt (by omega)] at hw1
              obtain ⟨s, hs, rfl⟩ := inB_nI (n := 99) (by omega) h3
              obtain ⟨n, hn, rfl⟩ := inB_nI (n := 40) (by omega) h4
              rw [nn_I (by omega), nn_I (by omega), nn_I (by omega), nn_I (by omega), nn_I (by omega)]
              obtain ⟨h', a1, a2, a3⟩ := u_addPerson (d := d + 9) (q := (k, a, w, s, n)) hM hB hl ⟨hk, ha, ⟨by show 1 ≤ w; omega, by show w ≤ 40; omega⟩, hs, hn⟩
              have hlen : (T.1.1 ++ [(k, a, w, s, n)]).length = T.1.1.length + 1 := by rw [List.length_append]; rfl
              have eR : hI h' m 13 - (1 : Int32) = nI T.1.1.length := by rw [a3.n]; show nI (T.1.1 ++ [(k, a, w, s, n)]).length - 1 = _; rw [hlen]; exact nI_pred _
              refine muW hS0 ⟨inP_app o1, o2, o3, o4, o5, o6⟩ (by show _ ≤ (T.1.1 ++ _).length; rw [hlen]; omega) ⟨h', ent ⟨.int, rfl, rfl⟩ (k_X8_person_70 hM.g (fun _ => ?_) (fun z => absurd ((nI_eq (b := 8) (by omega) (by omega)).mp (hB.n.symm.trans z)) (by omega))), a2.mono (fun i k z => Or.inl z), a3⟩
              have kk := k_X8_person_87 (d := d + 9) (a1 := nI k) (a2 := nI a) (a3 := nI w) (a4 := nI s) (a5 := nI n) a1 (Or.inl a2.1) hM.g (hM.keep a2).g
              rw [eR] at kk
              exact kk
            · rw [if_neg hl]
              have h8 : T.1.1.length = 8 := by omega
              exact muR (k := 4) (by omega) hS0 (fun h' r e => ent ⟨.int, rfl, rfl⟩ (k_X8_person_70 hM.g (fun z => absurd (by rw [hB.n, h8]; rfl) z) (fun _ => k_X8_person_79 r (Or.inl e) hM.g)))
theorem m_climb {p : Int32} (hS : MS h m ko to T) : RfU mX8_climb (d + 10) [.ref m, .int p] h m ko to (s_climb T p).1 (s_climb T p).2 := by
  have hS0 := hS
  obtain ⟨hT, hM, hB, hTp, hRf, hSh, hK, hTr⟩ := hS
  obtain ⟨o1, o2, o3, o4, o5, o6⟩ := hT.1
  have n8 := hB.n8
  have l8 := hB.l8
  unfold s_climb
  cases hp : hasB T.1.1.length p with
  | false =>
    rw [if_neg (by decide)]
    exact muR (k := 0) (by omega) hS0 (fun h1 r e => jm mi_X8_climb (Nat.le_of_ble_eq_true rfl) ⟨.int, rfl, rfl⟩ rfl (k_X8_climb_0 (t_isPerson hM hB) (Or.inl rfl) hM.g (fun z => absurd z (by rw [hp]; decide)) (fun _ => k_X8_climb_9 r (Or.inl e) hM.g)))
  | true =>
    rw [if_pos rfl]
    obtain ⟨i, hi, rfl⟩ := hasB_nI hp
    rw [nn_I (by omega)]
    have hin := u_isIn (d := d + 8) (x := i) hM hB o1 (by omega)
    cases hk : (courseF T.1.2.1 i 0).isSome with
    | true =>
      rw [hk] at hin
      rw [Bool.true_or, if_pos rfl]
      exact muR (k := 3) (by omega) hS0 (fun h1 r e => jm mi_X8_climb (Nat.le_of_ble_eq_true rfl) ⟨.int, rfl, rfl⟩ rfl (k_X8_climb_0 (t_isPerson hM hB) (Or.inl rfl) hM.g (fun _ => k_X8_climb_17 hin (Or.inl rfl) hM.g (fun _ => k_X8_climb_36 r (Or.inl e) hM.g) (fun z => absurd z (by decide))) (fun z => absurd z (by rw [hp]; decide))))
    | false =>
      rw [hk] at hin
      rw [Bool.false_or]
      by_cases hlt : T.1.2.1.length < T.1.2.2.2.1
      · rw [if_neg (by rw [decide_eq_true_eq]; omega)]
        obtain ⟨h1, a1, a2, a3⟩ := u_puts (d := d + 9) (x := i) hM hB (Nat.le_refl _) (by omega)
        have hM1 := hM.keep a2
        obtain ⟨h2, b1, b2, b3⟩ := u_falls (d := d + 3) hM1 a3 (insL_in o1 hi)
        refine muW hS0 (okW_fall (okW_ins hT.1 hi hk hlt)) (by rw [fallW_P]; exact Nat.le_refl _) ⟨h2, jm mi_X8_climb (Nat.le_of_ble_eq_true rfl) ⟨.int, rfl, rfl⟩ rfl (k_X8_climb_0 (t_isPerson hM hB) (Or.inl rfl) hM.g (fun _ => k_X8_climb_17 hin (Or.inl rfl) hM.g (fun z => absurd rfl z) (fun _ => k_X8_climb_25 hM.g (fun _ => k_X8_climb_44 hM.g (by rw [hB.sz]; exact a1) (Or.inl a2.1) b1 (Or.inl b2.1) hM1.g (fun q => ?_) (fun q => ?_)) (fun q => absurd (by rw [hB.sz, hB.mo]; exact nI_lt hlt (by omega)) q))) (fun z => absurd z (by rw [hp]; decide))), ((a2.mono (fun i k => fPV)).tr b2).mono (fun i k z => Or.inl z), b3⟩
        · have q := bI_0.mp q
          rw [Bool.not_eq_false'] at q
          exact k_X8_climb_64 (ji (v := 1) (by show (1 : Int32) = bI _; have q : firmB T.1.1 T.1.2.2.1 (insL T.1.2.1 T.1.2.1.length i) = true := q; rw [q]; rfl) k_X8_climb_65)
        · have q := bI_n0.mp q
          rw [Bool.not_eq_true'] at q
          exact k_X8_climb_60 (ji (v := 0) (by show (0 : Int32) = bI _; have q : firmB T.1.1 T.1.2.2.1 (insL T.1.2.1 T.1.2.1.length i) = false := q; rw [q]; rfl) k_X8_climb_65)
      · rw [if_pos (by rw [decide_eq_true_eq]; omega)]
        exact muR (k := 3) (by omega) hS0 (fun h1 r e => jm mi_X8_climb (Nat.le_of_ble_eq_true rfl) ⟨.int, rfl, rfl⟩ rfl (k_X8_climb_0 (t_isPerson hM hB) (Or.inl rfl) hM.g (fun _ => k_X8_climb_17 hin (Or.inl rfl) hM.g (fun z => absurd rfl z) (fun _ => k_X8_climb_25 hM.g (fun q => absurd q (by rw [hB.sz, hB.mo]; exact nI_nlt (by omega) (by omega))) (fun _ => k_X8_climb_36 r (Or.inl e) hM.g))) (fun z => absurd z (by rw [hp]; decide))))
theorem m_comesOut (hS : MS h m ko to T) : RfU mX8_comesOut (d + 10) [.ref m] h m ko to (s_comesOut T).1 (s_comesOut T).2 := by
  have hS0 := hS
  obtain ⟨hT, hM, hB, hTp, hRf, hSh, hK, hTr⟩ := hS
  obtain ⟨o1, o2, o3, o4, o5, o6⟩ := hT.1
  have n8 := hB.n8
  have l8 := hB.l8
  unfold s_comesOut
  by_cases h0 : T.1.2.1.length = 0
  · rw [if_pos h0]
    exact muR (k := 3) (by omega) hS0 (fun h1 r e => jm mi_X8_comesOut (Nat.le_of_ble_eq_true rfl) ⟨.int, rfl, rfl⟩ rfl (k_X8_comesOut_0 hM.g (fun z => absurd (by rw [hB.sz, h0]; rfl) z) (fun _ => k_X8_comesOut_7 r (Or.inl e) hM.g)))
  · rw [if_neg h0]
    have hl0 : 0 < T.1.2.1.length := Nat.pos_of_ne_zero h0
    obtain ⟨h1, a1, a2, a3⟩ := u_takes (d := d + 9) hM hB hl0
    have hM1 := hM.keep a2
    obtain ⟨h2, b1, b2, b3⟩ := u_falls (d := d + 3) hM1 a3 (delL_in o1)
    exact muW hS0 (okW_fall (okW_del hT.1 hl0)) (by rw [fallW_P]; exact Nat.le_refl _) ⟨h2, jm mi_X8_comesOut (Nat.le_of_ble_eq_true rfl) ⟨.int, rfl, rfl⟩ rfl (k_X8_comesOut_0 hM.g (fun _ => k_X8_comesOut_15 a1 (Or.inl a2.1) hM.g b1 (Or.inl b2.1) hM1.g) (fun z => absurd ((nI_eq (b := 0) (by omega) (by omega)).mp (hB.sz.symm.trans z)) h0)), ((a2.mono (fun i k => fPV)).tr b2).mono (fun i k z => Or.inl z), b3⟩
theorem m_seed {v : Int32} (hS : MS h m ko to T) : RfU mX8_seed (d + 10) [.ref m, .int v] h m ko to (s_seed T v).1 (s_seed T v).2 := by
  have hS0 := hS
  obtain ⟨hT, hM, hB, hTp, hRf, hSh, hK, hTr⟩ := hS
  obtain ⟨o1, o2, o3, o4, o5, o6⟩ := hT.1
  have n8 := hB.n8
  have l8 := hB.l8
  have U : Upf (fun i k => i = m ∧ k = 21) h (setI h m 21 v) := Upf.set ⟨rfl, rfl⟩
  obtain ⟨w1, w2, w3, w4, w5, w6⟩ := hB.2.2
  refine muW hS0 ⟨o1, o2, o3, o4, o5, o6⟩ (Nat.le_refl _) ⟨_, jm mi_X8_seed (Nat.le_of_ble_eq_true rfl) ⟨.int, rfl, rfl⟩ rfl (by have := k_X8_seed_0 (d := d + 10) (a1 := v) hM.g; rw [w5] at this; exact this), U.mono (fun i k z => Or.inl (by unfold fV; omega)), hB.1.of (fun i k z => U.ii (by omega)), hB.2.1.of (fun i k z => U.ii (by omega)), ?_⟩
  exact ⟨by rw [U.ii (by omega)]; exact w1, by rw [U.ii (by omega)]; exact w2, by rw [U.ii (by omega)]; exact w3, by rw [U.ii (by omega)]; exact w4, by rw [hI_setI]; exact if_pos ⟨rfl, rfl⟩, w6⟩
/-- days -/
theorem u_noDays {n : Int32} (hS : MS h m ko to T) : ∃ (v : Int32) (h1 : PH), JMt mX8_noDays (some .int) (d + 2) [.ref m, .int n] h (some (.int v)) h1 ∧ hn h1 = hn h ∧ (if inB n 1 60 then (if T.1.1.length = 0 then v = rfI 3 ∧ Upf (fun i _ => i = m + 16) h h1 ∧ MS h1 m ko to (rfT T 3) else v = 0 ∧ h1 = h) else v = rfI 0 ∧ Upf (fun i _ => i = m + 16) h h1 ∧ MS h1 m ko to (rfT T 0)) := by
  have hS0 := hS
  obtain ⟨hT, hM, hB, hTp, hRf, hSh, hK, hTr⟩ := hS
  obtain ⟨o1, o2, o3, o4, o5, o6⟩ := hT.1
  have n8 := hB.n8
  have l8 := hB.l8
  cases hb : inB n 1 60 with
  | false =>
    obtain ⟨h1, a, b, c⟩ := u_refuse (k := 0) (d := d + 1) (by omega) hS0
    exact ⟨_, h1, jm mi_X8_noDays (Nat.le_of_ble_eq_true rfl) ⟨.int, rfl, rfl⟩ rfl (k_X8_noDays_0 t_in_1_60 (Or.inl rfl) (fun z => absurd z (by rw [hb]; decide)) (fun _ => k_X8_noDays_12 a (Or.inl b.1) hM.g)), b.1, rfl, b, c⟩
  | true =>
    by_cases h0 : T.1.1.length = 0
    · obtain ⟨h1, a, b, c⟩ := u_refuse (k := 3) (d := d + 1) (by omega) hS0
      exact ⟨_, h1, jm mi_X8_noDays (Nat.le_of_ble_eq_true rfl) ⟨.int, rfl, rfl⟩ rfl (k_X8_noDays_0 t_in_1_60 (Or.inl rfl) (fun _ => k_X8_noDays_20 hM.g (fun z => absurd (by rw [hB.n, h0]; rfl) z) (fun _ => k_X8_noDays_27 a (Or.inl b.1) hM.g k_X8_noDays_38)) (fun z => absurd z (by rw [hb]; decide))), b.1, by rw [if_pos rfl, if_pos h0]; exact ⟨rfl, b, c⟩⟩
    · exact ⟨0, h, jm mi_X8_noDays (Nat.le_of_ble_eq_true rfl) ⟨.int, rfl, rfl⟩ rfl (k_X8_noDays_0 t_in_1_60 (Or.inl rfl) (fun _ => k_X8_noDays_20 hM.g (fun _ => k_X8_noDays_37 k_X8_noDays_38) (fun z => absurd ((nI_eq (b := 0) (by omega) (by omega)).mp (hB.n.symm.trans z)) h0)) (fun z => absurd z (by rw [hb]; decide))), rfl, by rw [if_pos rfl, if_neg h0]; exact ⟨rfl, rfl⟩⟩
theorem v_days {n : Nat} : ∀ k j (h : PH) (τ : WS), n - j = k → j ≤ n → n ≤ 60 → okW τ → 0 < τ.1.length → ModH h m → MB h m τ →
    ∃ h1, (∀ o h', J mX8_days (d + 8) 28 [some (.ref m), some (.int (nI n)), some (.int 0), some (.int (nI n))] [] h1 o h' → J mX8_days (d + 8) 8 [some (.ref m), some (.int (nI n)), some (.int 0), some (.int (nI j))] [] h o h') ∧ Upf (fV m) h h1 ∧ MB h1 m (itF (fun _ s => turnW s) k j τ) ∧ okW (itF (fun _ s => turnW s) k j τ) := by
  intro k
  induction k with
  | zero =>
    intro j h τ hj hl hn ho hp hM hB
    have : j = n := by omega
    subst this
    exact ⟨h, fun o h' kk => k_X8_days_8 (fun _ => kk) (fun q => absurd (nI_le (Nat.le_refl _) (by omega)) q), Upf.rf, hB, ho⟩
  | succ k ih =>
    intro j h τ hj hl hn ho hp hM hB
    obtain ⟨h2, t1, t2, t3⟩ := u_turns (d := d) hM hB ho hp
    obtain ⟨h1, b1, b2, b3, b4⟩ := ih (j + 1) h2 (turnW τ) (by omega) (by omega) hn (okW_turn ho) (by rw [turnW_P]; exact hp) (hM.keep t2) t3
    refine ⟨h1, fun o h' kk => k_X8_days_8 (fun q => absurd q (nI_ge (by omega) (by omega))) (fun _ => k_X8_days_13 (fun z => absurd rfl z) (fun _ => k_X8_days_17 t1 (Or.inl t2.1) hM.g ?_)), t2.tr b2, b3, b4⟩
    rw [nI_1]
    exact b1 o h' kk
theorem m_days {n : Int32} (hS : MS h m ko to T) : RfU mX8_days (d + 10) [.ref m, .int n] h m ko to (s_days T n).1 (s_days T n).2 := by
  have hS0 := hS
  obtain ⟨hT, hM, hB, hTp, hRf, hSh, hK, hTr⟩ := hS
  obtain ⟨o1, o2, o3, o4, o5, o6⟩ := hT.1
  have n8 := hB.n8
  have l8 := hB.l8
  obtain ⟨v, h1, a1, a2, a3⟩ := u_noDays (d := d + 7) (n := n) hS0
  unfold s_days
  have bad : ∀ k, k < 5 → v = rfI k → Upf (fun i _ => i = m + 16) h h1 → MS h1 m ko to (rfT T k) → RfU mX8_days (d + 10) [.ref m, .int n] h m ko to (rfI k) (rfT T k) := fun k hk ev U hS1 => by
    subst ev
    have hr : ∀ k, k < 5 → ¬ rfI k = 0 := by decide
    exact ⟨h1, jm mi_X8_days (Nat.le_of_ble_eq_true rfl) ⟨.int, rfl, rfl⟩ rfl (k_X8_days_0 a1 (Or.inl a2) hM.g (k_X8_days_8 (fun _ => k_X8_days_28 (fun z => absurd z (hr k hk)) (fun _ => k_X8_days_32 k_X8_days_40)) (fun _ => k_X8_days_13 (fun _ => k_X8_days_28 (fun z => absurd z (hr k hk)) (fun _ => k_X8_days_32 k_X8_days_40)) (fun z => absurd z (hr k hk))))), U.mono (fun i k z => by unfold fM; omega), hS1⟩
  cases hb : inB n 1 60 with
  | false =>
    rw [hb] at a3
    rw [if_neg (by decide)]
    exact bad 0 (by omega) a3.1 a3.2.1 a3.2.2
  | true =>
    rw [hb, if_pos rfl] at a3
    rw [if_pos rfl]
    by_cases h0 : T.1.1.length = 0
    · rw [if_pos h0] at a3 ⊢
      exact bad 3 (by omega) a3.1 a3.2.1 a3.2.2
    · rw [if_neg h0] at a3 ⊢
      obtain ⟨rfl, rfl⟩ := a3
      have hbb := of_decide_eq_true hb
      obtain ⟨n, hn, rfl⟩ := inr (x := n) (n := 61) (by rw [lt0I]; omega) (by omega)
      rw [nn_I (by omega)]
      obtain ⟨h2, b1, b2, b3, b4⟩ := v_days (d := d + 2) (m := m) (n := n) _ 0 h1 T.1 rfl (Nat.zero_le _) (by omega) hT.1 (by omega) hM hB
      rw [Nat.sub_zero] at b3 b4
      have hM2 := hM.keep b2
      exact muW hS0 b4 (by show _ ≤ (dayW T.1 n).1.length; rw [dayW_P]; exact Nat.le_refl _) ⟨h2, jm mi_X8_days (Nat.le_of_ble_eq_true rfl) ⟨.int, rfl, rfl⟩ rfl (k_X8_days_0 a1 (Or.inl a2) hM.g (b1 _ _ (k_X8_days_28 (fun _ => k_X8_days_36 (u_heightNow hM2 b3 b4.1) (Or.inl rfl) hM2.g k_X8_days_40) (fun z => absurd rfl z)))), b2.mono (fun i k z => Or.inl z), b3⟩
theorem u_below {σ : WS} (hM : ModH h m) (hB : MB h m σ) : ∃ h1, JMt mX8_below (some .int) d [.ref m, .int 10] h (some (.int (nI (dN σ.2.2.2.2.2.2)))) h1 ∧ Upf (fun i k => i = m ∧ k = 21) h h1 ∧ hI h1 m 21 = seedF σ.2.2.2.2.2.2 := by
  have := k_X8_below_0 (d := d) (h := h) (a0 := m) (a1 := 10) hM.g (by decide)
  have e : hI (setI h m 21 (hI h m 21 * (1103515245 : Int32) + (12345 : Int32))) m 21 = seedF σ.2.2.2.2.2.2 := by rw [hI_setI, if_pos ⟨rfl, rfl⟩, hB.se]; rfl
  rw [e] at this
  have this : J mX8_below d 0 [some (.ref m), some (.int 10)] [] h (some (.int (highF (seedF σ.2.2.2.2.2.2) - highF (seedF σ.2.2.2.2.2.2) / (10 : Int32) * (10 : Int32)))) (setI h m 21 (hI h m 21 * (1103515245 : Int32) + (12345 : Int32))) := this
  rw [(dN_lt σ.2.2.2.2.2.2).2] at this
  exact ⟨_, jm mi_X8_below (Nat.le_of_ble_eq_true rfl) ⟨.int, rfl, rfl⟩ rfl this, Upf.set ⟨rfl, rfl⟩, e⟩
theorem turn_fa {σ : WS} : (turnW σ).2.2.2.2.2.1 = σ.2.2.2.2.2.1 + nI (if firmB σ.1 σ.2.2.1 (turnL σ.2.2.2.1 σ.1.length σ.2.1) then 0 else 1) := by
  unfold turnW fallW
  dsimp only
  split
  · exact (Int32.add_zero _).symm
  · rfl
theorem fall_fa {σ : WS} : (fallW σ).2.2.2.2.2.1 = σ.2.2.2.2.2.1 + nI (if firmB σ.1 σ.2.2.1 σ.2.1 then 0 else 1) := by
  unfold fallW
  split
  · exact (Int32.add_zero _).symm
  · rfl
theorem v_drawn {f : Int32 → Nat} {g : Int32 → Int32} {n : Nat} {f0 : Int32} (hf : ∀ s, f s < 10) (hd : ∀ (h : PH) (σ : WS), ModH h m → MB h m σ → ∃ h1, JMt mX8_below (some .int) (d + 7) [.ref m, .int 10] h (some (.int (nI (f σ.2.2.2.2.2.2)))) h1 ∧ Upf (fun i k => i = m ∧ k = 21) h h1 ∧ hI h1 m 21 = g σ.2.2.2.2.2.2) : ∀ k j (h : PH) (τ : WS) (c : Nat), n - j = k → j ≤ n → n ≤ 60 → okW τ → 0 < τ.1.length → ModH h m → MB h m τ → τ.2.2.2.2.2.1 = f0 + nI c →
    ∃ (h1 : PH) (c1 : Nat), (∀ o h', J mX8_drawn (d + 8) 67 [some (.ref m), some (.int (nI n)), some (.int 0), some (.int (nI c1)), some (.int (nI n))] [] h1 o h' → J mX8_drawn (d + 8) 11 [some (.ref m), some (.int (nI n)), some (.int 0), some (.int (nI c)), some (.int (nI j))] [] h o h') ∧ Upf (fV m) h h1 ∧ MB h1 m (itF (fun _ s => turnW (fallW (drwG f g s))) k j τ) ∧ okW (itF (fun _ s => turnW (fallW (drwG f g s))) k j τ) ∧ (itF (fun _ s => turnW (fallW (drwG f g s))) k j τ).2.2.2.2.2.1 = f0 + nI c1 := by
  intro k
  induction k with
  | zero =>
    intro j h τ c hj hl hn ho hp hM hB hc
    have : j = n := by omega
    subst this
    exact ⟨h, c, fun o h' kk => k_X8_drawn_11 (fun _ => kk) (fun q => absurd (nI_le (Nat.le_refl _) (by omega)) q), Upf.rf, hB, ho, hc⟩
  | succ k ih =>
    intro j h τ c hj hl hn ho hp hM hB hc
    have hd1 := hf τ.2.2.2.2.2.2
    obtain ⟨h2, a1, a2, a3⟩ := hd h τ hM hB
    have U2 : Upf (fun i k => i = m ∧ (k = 21 ∨ k = 9)) h (setI h2 m 9 (nI (f τ.2.2.2.2.2.2))) := (a2.mono (fun i k z => ⟨z.1, Or.inl z.2⟩)).st ⟨rfl, Or.inr rfl⟩
    have hM2 := hM.keep a2
    have hM3 : ModH (setI h2 m 9 (nI (f τ.2.2.2.2.2.2))) m := hM.keep U2
    have oD : okW (drwG f g τ) := okW_drw hf ho
    have B3 : MB (setI h2 m 9 (nI (f τ.2.2.2.2.2.2))) m (drwG f g τ) := by
      obtain ⟨w1, w2, w3, w4, w5, w6, w7, w8⟩ := hB.2.2
      refine ⟨hB.1.of (fun i k z => U2.ii (by omega)), hB.2.1.of (fun i k z => U2.ii (by omega)), by rw [hI_setI]; exact if_pos ⟨rfl, rfl⟩, by rw [U2.ii (by omega)]; exact w2, by rw [U2.ii (by omega)]; exact w3, by rw [U2.ii (by omega)]; exact w4, by rw [hI_setI, if_neg (by omega)]; exact a3, by show f τ.2.2.2.2.2.2 ≤ 10; omega, w7, w8⟩
    obtain ⟨h4, c1, c2, c3⟩ := u_falls (d := d + 1) hM3 B3 oD.1
    have hM4 := hM3.keep c2
    have oF : okW (fallW (drwG f g τ)) := okW_fall oD
    obtain ⟨h5, t1, t2, t3⟩ := u_turns (d := d) hM4 c3 oF (by rw [fallW_P]; exact hp)
    have f1 := fall_fa (σ := drwG f g τ)
    have f2 := turn_fa (σ := fallW (drwG f g τ))
    rw [f1] at f2
    have f2 : (turnW (fallW (drwG f g τ))).2.2.2.2.2.1 = τ.2.2.2.2.2.1 + nI (if firmB (drwG f g τ).1 (drwG f g τ).2.2.1 (drwG f g τ).2.1 = true then 0 else 1) + nI (if firmB (fallW (drwG f g τ)).1 (fallW (drwG f g τ)).2.2.1 (turnL (fallW (drwG f g τ)).2.2.2.1 (fallW (drwG f g τ)).1.length (fallW (drwG f g τ)).2.1) = true then 0 else 1) := f2
    rw [hc, Int32.add_assoc, Int32.add_assoc, nI_add, nI_add] at f2
    obtain ⟨h1, cc, b1, b2, b3, b4, b5⟩ := ih (j + 1) h5 (turnW (fallW (drwG f g τ))) _ (by omega) (by omega) hn (okW_turn oF) (by rw [turnW_P, fallW_P]; exact hp) (hM4.keep t2) t3 f2
    have run : ∀ (b0 : Nat) {o : Option Value} {h' : PH}, (J mX8_drawn (d + 8) 11 [some (.ref m), some (.int (nI n)), some (.int 0), some (.int (nI (c + b0 + (if firmB (fallW (drwG f g τ)).1 (fallW (drwG f g τ)).2.2.1 (turnL (fallW (drwG f g τ)).2.2.2.1 (fallW (drwG f g τ)).1.length (fallW (drwG f g τ)).2.1) = true then 0 else 1)))), some (.int (nI (j + 1)))] [] h5 o h') → J mX8_drawn (d + 8) 44 [some (.ref m), some (.int (nI n)), some (.int 0), some (.int (nI c)), some (.int (nI j))] [.int (nI b0), .int (nI c)] h4 o h' := fun b0 o h' kk => by
      refine k_X8_drawn_44 t1 (Or.inl t2.1) hM4.g (fun q => ?_) (fun q => ?_)
      · have q := bI_0.mp q
        rw [Bool.not_eq_false'] at q
        rw [if_pos q] at kk
        refine k_X8_drawn_58 (k_X8_drawn_59 ?_)
        rw [nI_add, nI_1, show (0 : Int32) = nI 0 from rfl, nI_add]
        exact kk
      · have q := bI_n0.mp q
        rw [Bool.not_eq_true'] at q
        rw [if_neg (by rw [q]; decide)] at kk
        refine k_X8_drawn_54 (k_X8_drawn_59 ?_)
        rw [nI_add, nI_1, nI_1]
        exact kk
    refine ⟨h1, cc, fun o h' kk => k_X8_drawn_11 (fun q => absurd q (nI_ge (by omega) (by omega))) (fun _ => k_X8_drawn_17 (fun z => absurd rfl z) (fun _ => k_X8_drawn_21 a1 (Or.inl a2.1) hM.g hM2.g c1 (Or.inl c2.1) (fun q => ?_) (fun q => ?_))), ((U2.mono (fun i k z => by unfold fV; omega)).tr c2).tr (t2.tr b2), b3, b4, b5⟩
    · have q := bI_0.mp q
      rw [Bool.not_eq_false'] at q
      have := b1 o h' kk
      rw [if_pos q, ← Nat.add_assoc] at this
      exact k_X8_drawn_43 (run 0 this)
    · have q := bI_n0.mp q
      rw [Bool.not_eq_true'] at q
      have := b1 o h' kk
      rw [if_neg (by rw [q]; decide), ← Nat.add_assoc] at this
      exact k_X8_drawn_39 (run 1 this)
theorem m_drawn {n : Int32} (hS : MS h m ko to T) : RfU mX8_drawn (d + 10) [.ref m, .int n] h m ko to (s_drawn T n).1 (s_drawn T n).2 := by
  have hS0 := hS
  obtain ⟨hT, hM, hB, hTp, hRf, hSh, hK, hTr⟩ := hS
  obtain ⟨o1, o2, o3, o4, o5, o6⟩ := hT.1
  have n8 := hB.n8
  have l8 := hB.l8
  obtain ⟨v, h1, a1, a2, a3⟩ := u_noDays (d := d + 7) (n := n) hS0
  unfold s_drawn
  have bad : ∀ k, k < 5 → v = rfI k → Upf (fun i _ => i = m + 16) h h1 → MS h1 m ko to (rfT T k) → RfU mX8_drawn (d + 10) [.ref m, .int n] h m ko to (rfI k) (rfT T k) := fun k hk ev U hS1 => by
    subst ev
    have hr : ∀ k, k < 5 → ¬ rfI k = 0 := by decide
    exact ⟨h1, jm mi_X8_drawn (Nat.le_of_ble_eq_true rfl) ⟨.int, rfl, rfl⟩ rfl (k_X8_drawn_0 a1 (Or.inl a2) hM.g (k_X8_drawn_11 (fun _ => k_X8_drawn_67 (fun z => absurd z (hr k hk)) (fun _ => k_X8_drawn_71 k_X8_drawn_76)) (fun _ => k_X8_drawn_17 (fun _ => k_X8_drawn_67 (fun z => absurd z (hr k hk)) (fun _ => k_X8_drawn_71 k_X8_drawn_76)) (fun z => absurd z (hr k hk))))), U.mono (fun i k z => by unfold fM; omega), hS1⟩
  cases hb : inB n 1 60 with
  | false =>
    rw [hb] at a3
    rw [if_neg (by decide)]
    exact bad 0 (by omega) a3.1 a3.2.1 a3.2.2
  | true =>
    rw [hb, if_pos rfl] at a3
    rw [if_pos rfl]
    by_cases h0 : T.1.1.length = 0
    · rw [if_pos h0] at a3 ⊢
      exact bad 3 (by omega) a3.1 a3.2.1 a3.2.2
    · rw [if_neg h0] at a3 ⊢
      obtain ⟨rfl, rfl⟩ := a3
      have hbb := of_decide_eq_true hb
      obtain ⟨n, hn, rfl⟩ := inr (x := n) (n := 61) (by rw [lt0I]; omega) (by omega)
      rw [nn_I (by omega)]
      obtain ⟨h2, cc, b1, b2, b3, b4, b5⟩ := v_drawn (d := d + 2) (m := m) (f := dN) (g := seedF) (n := n) (f0 := T.1.2.2.2.2.2.1) (fun s => (dN_lt s).1) (fun h σ M B => u_below M B) _ 0 h1 T.1 0 rfl (Nat.zero_le _) (by omega) hT.1 (by omega) hM hB (Int32.add_zero _).symm
      rw [Nat.sub_zero] at b3 b4 b5
      have b5 : (drnG dN seedF T.1 n).2.2.2.2.2.1 = T.1.2.2.2.2.2.1 + nI cc := b5
      have e : (drnG dN seedF T.1 n).2.2.2.2.2.1 - T.1.2.2.2.2.2.1 = nI cc := by rw [b5, Int32.add_comm, Int32.add_sub_cancel]
      rw [e]
      exact muW hS0 b4 (by show _ ≤ (drnG dN seedF T.1 n).1.length; rw [drnG_P]; exact Nat.le_refl _) ⟨h2, jm mi_X8_drawn (Nat.le_of_ble_eq_true rfl) ⟨.int, rfl, rfl⟩ rfl (k_X8_drawn_0 a1 (Or.inl a2) hM.g (b1 _ _ (k_X8_drawn_67 (fun _ => k_X8_drawn_75 k_X8_drawn_76) (fun z => absurd rfl z)))), b2.mono (fun i k z => Or.inl z), b3⟩
end ST
