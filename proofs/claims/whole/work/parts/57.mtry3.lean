/-! questions of the reference that try towers in thought, 3 -/
theorem itF_1 {S : Type} {f : Nat → S → S} {n j : Nat} {s : S} : itF f (n + 1) j s = itF f n (j + 1) (f j s) := rfl
theorem stOK_und {σ : WS} {p : Nat} {s : Int × Int} (hs : stOK s) (hP : ∀ r ∈ σ.1, okP r) (hL : σ.2.1.length < 8) (hp : p < 8) : stOK (undS σ p s) := by
  unfold undS
  split
  · exact hs
  · split
    · have := slackZ_lsl (P := σ.1) (L := insL σ.2.1 0 p) hP (by rw [insL_len (Nat.zero_le _)]; omega)
      exact ⟨⟨by show (-1 : Int) ≤ (p : Int); omega, by show (p : Int) ≤ 100; omega⟩, this⟩
    · exact hs
theorem undS_lt {σ : WS} {p : Nat} {s : Int × Int} (hs : s.1 < p) : (undS σ p s).1 < (p : Int) + 1 := by
  unfold undS
  split
  · omega
  · split
    · show (p : Int) < _; omega
    · omega
section TV
variable {d : Nat} {h : PH} {m : Nat} {ko to : Option Nat} {T : TS}
theorem v_under {σ : WS} (ho : okW σ) (hlt : σ.2.1.length < σ.2.2.2.1) : ∀ n j (h : PH) (s : Int × Int), σ.1.length - j = n → j ≤ σ.1.length → stOK s → s.1 < j → ModH h m → MB h m σ →
    ∃ h1, J mX8_under (d + 7) 6 [some (.ref m), some (.int (sI s.1)), some (.int (sI s.2)), some (.int (nI j)), none] [] h (some (.int (sI (itF (undS σ) n j s).1))) h1 ∧ Upf (fV m) h h1 ∧ MB h1 m σ := by
  obtain ⟨o1, o2, o3, o4, o5, o6⟩ := ho
  intro n
  induction n with
  | zero =>
    intro j h s hj hl hs hsj hM hB
    have n8 := hB.n8
    exact ⟨h, k_X8_under_6 hM.g (fun _ => k_X8_under_90) (fun q => absurd (by rw [hB.n]; exact nI_le (by omega) (by omega)) q), Upf.rf, hB⟩
  | succ n ih =>
    intro j h s hj hl hs hsj hM hB
    have n8 := hB.n8
    have l8 := hB.l8
    have m8 := hB.m8
    have hjl : j < σ.1.length := by omega
    have hs' := stOK_und (p := j) hs hB.ok (by omega) (by omega)
    have hsj' := undS_lt (σ := σ) hsj
    obtain ⟨⟨s1, s2⟩, s3, s4⟩ := hs
    have ent : ∀ {o : Option Value} {h' : PH}, J mX8_under (d + 7) 25 [some (.ref m), some (.int (sI s.1)), some (.int (sI s.2)), some (.int (nI j)), none] [] h o h' → J mX8_under (d + 7) 6 [some (.ref m), some (.int (sI s.1)), some (.int (sI s.2)), some (.int (nI j)), none] [] h o h' := fun kk => k_X8_under_6 hM.g (fun q => absurd q (by rw [hB.n]; exact nI_ge hjl (by omega))) (fun _ => k_X8_under_14 hM.g (fun q => absurd q (by rw [hB.mo, hB.sz]; exact nI_ge hlt (by omega))) (fun _ => kk))
    have hin := u_isIn (d := d + 5) (x := j) hM hB o1 (by omega)
    rw [itF_1]
    cases hk : (courseF σ.2.1 j 0).isSome with
    | true =>
      rw [hk] at hin
      obtain ⟨h1, b1, b2, b3⟩ := ih (j + 1) h _ (by omega) (by omega) hs' (by omega) hM hB
      refine ⟨h1, ent (k_X8_under_25 hin (Or.inl rfl) hM.g (fun _ => k_X8_under_84 ?_) (fun z => absurd z (by decide))), b2, b3⟩
      rw [nI_1]
      have e : undS σ j s = s := by unfold undS; rw [if_pos hk]
      rw [e] at b1 ⊢
      exact b1
    | false =>
      rw [hk] at hin
      have hll := not_in_len o2 o1 hjl hk
      have il : (insL σ.2.1 0 j).length = σ.2.1.length + 1 := insL_len (Nat.zero_le _)
      obtain ⟨h2, a1, a2, a3⟩ := u_puts (d := d + 6) (k := 0) (x := j) hM hB (Nat.zero_le _) (by omega)
      have hM2 := hM.keep a2
      obtain ⟨t1, t2⟩ := u_least (d := d + 3) hM2 a3 (insL_in o1 hjl) (by show 0 < (insL σ.2.1 0 j).length; omega)
      obtain ⟨h3, c1, c2, c3⟩ := u_takes (d := d + 6) (k := 0) hM2 a3 (by show 0 < (insL σ.2.1 0 j).length; omega)
      have c3 : MB h3 m (σ.1, delL (insL σ.2.1 0 j) 0, σ.2.2) := c3
      rw [del_ins (Nat.zero_le _)] at c3
      have U : Upf (fV m) h h3 := (a2.tr c2).mono (fun i k => fPV)
      have lb := slackZ_lsl (P := σ.1) (L := insL σ.2.1 0 j) hB.ok (by omega)
      obtain ⟨h1, b1, b2, b3⟩ := ih (j + 1) h3 _ (by omega) (by omega) hs' (by omega) (hM2.keep c2) c3
      have e : undS σ j s = if s.1 = -1 ∨ s.2 < lslZ σ.1 (insL σ.2.1 0 j) then ((j : Int), lslZ σ.1 (insL σ.2.1 0 j)) else s := by unfold undS; rw [if_neg (by rw [hk]; decide)]
      have hm1 : sI s.1 = -1 ↔ s.1 = -1 := sI_neg1 s1 (by omega)
      have hle : sI (lslZ σ.1 (insL σ.2.1 0 j)) ≤ sI s.2 ↔ lslZ σ.1 (insL σ.2.1 0 j) ≤ s.2 := sI_le (by omega) (by omega) (by omega) (by omega)
      have hne : sI s.1 ≠ nI j := fun z => by rw [nI_sI, sI_eq (by omega) (by omega) (by omega) (by omega)] at z; omega
      have yes : s.1 = -1 ∨ s.2 < lslZ σ.1 (insL σ.2.1 0 j) → J mX8_under (d + 7) 66 [some (.ref m), some (.int (sI s.1)), some (.int (sI s.2)), some (.int (nI j)), some (.int (sI (lslZ σ.1 (insL σ.2.1 0 j))))] [] h3 (some (.int (sI (itF (undS σ) n (j + 1) (undS σ j s)).1))) h1 := fun z => by
        rw [if_pos z] at e
        rw [e] at b1 ⊢
        refine k_X8_under_66 (k_X8_under_71 (fun y => absurd rfl y) (fun _ => k_X8_under_77 (k_X8_under_83 (k_X8_under_84 ?_))))
        rw [nI_1, nI_sI j]
        exact b1
      have no : ¬ (s.1 = -1 ∨ s.2 < lslZ σ.1 (insL σ.2.1 0 j)) → J mX8_under (d + 7) 70 [some (.ref m), some (.int (sI s.1)), some (.int (sI s.2)), some (.int (nI j)), some (.int (sI (lslZ σ.1 (insL σ.2.1 0 j))))] [] h3 (some (.int (sI (itF (undS σ) n (j + 1) (undS σ j s)).1))) h1 := fun z => by
        rw [if_neg z] at e
        rw [e] at b1 ⊢
        refine k_X8_under_70 (k_X8_under_71 (fun _ => k_X8_under_82 (k_X8_under_83 (k_X8_under_84 ?_))) (fun y => absurd y hne))
        rw [nI_1]
        exact b1
      exact ⟨h1, ent (k_X8_under_25 hin (Or.inl rfl) hM.g (fun z => absurd rfl z) (fun _ => k_X8_under_33 a1 (Or.inl a2.1) hM.g t1 (Or.inl rfl) hM2.g t2 (Or.inl rfl) hM2.g c1 (Or.inl c2.1) hM2.g (fun q => yes (Or.inl (hm1.mp q))) (fun q => k_X8_under_60 (fun q2 => no (fun z => z.elim (fun y => q (hm1.mpr y)) (fun y => absurd (hle.mp q2) (by omega)))) (fun q2 => yes (Or.inr (Int.not_le.mp (fun y => q2 (hle.mpr y)))))))), U.tr b2, b3⟩
theorem m_under (hS : MS h m ko to T) : RfQ mX8_under (d + 10) [.ref m] h m ko to T (q_under T.1) := by
  have hS0 := hS
  obtain ⟨hT, hM, hB, hTp, hRf, hSh, hK, hTr⟩ := hS
  obtain ⟨o1, o2, o3, o4, o5, o6⟩ := hT.1
  have n8 := hB.n8
  have l8 := hB.l8
  unfold q_under
  by_cases hlt : T.1.2.1.length < T.1.2.2.2.1
  · rw [if_pos hlt]
    obtain ⟨h1, a1, a2, a3⟩ := v_under (m := m) (d := d + 3) hT.1 hlt _ 0 h (-1, 0) rfl (Nat.zero_le _) ⟨⟨by decide, by decide⟩, by decide, by decide⟩ (by decide) hM hB
    exact mqV hS0 ⟨h1, jm mi_X8_under (Nat.le_of_ble_eq_true rfl) ⟨.int, rfl, rfl⟩ rfl (k_X8_under_0 a1), a2.mono (fun i k q => Or.inl q), a3⟩
  · rw [if_neg hlt]
    exact mq0 hS0 (jm mi_X8_under (Nat.le_of_ble_eq_true rfl) ⟨.int, rfl, rfl⟩ rfl (k_X8_under_0 (k_X8_under_6 hM.g (fun _ => k_X8_under_90) (fun _ => k_X8_under_14 hM.g (fun _ => k_X8_under_90) (fun q => absurd (by rw [hB.mo, hB.sz]; exact nI_le (by omega) (by omega)) q)))))
theorem chgS_lt {σ : WS} {p q : Nat} {s : Int × Int} (hs : s.1 < 10 * p + q) : (chgS σ p q s).1 < 10 * (p : Int) + q + 1 := by
  unfold chgS
  split
  · split
    · show ((10 * p + q : Nat) : Int) < _; omega
    · omega
  · omega
theorem v_changeIn {σ : WS} (o1 : inP σ.1 σ.2.1) {p : Nat} (hp : p < σ.1.length) : ∀ n j (h : PH) (s : Int × Int), σ.1.length - j = n → j ≤ σ.1.length → p < j → stOK s → s.1 < 10 * p + j → ModH h m → MB h m σ →
    ∃ h1, (∀ o h', J mX8_change (d + 6) 133 [some (.ref m), some (.int (sI (itF (chgS σ p) n j s).1)), some (.int (sI (itF (chgS σ p) n j s).2)), some (.int (nI p)), some (.int (nI σ.1.length)), none, none, none] [] h1 o h' → J mX8_change (d + 6) 19 [some (.ref m), some (.int (sI s.1)), some (.int (sI s.2)), some (.int (nI p)), some (.int (nI j)), none, none, none] [] h o h') ∧ Upf (fV m) h h1 ∧ MB h1 m σ ∧ stOK (itF (chgS σ p) n j s) ∧ (itF (chgS σ p) n j s).1 < 10 * p + σ.1.length := by
  intro n
  induction n with
  | zero =>
    intro j h s hj hl hpj hs hsj hM hB
    have n8 := hB.n8
    have : j = σ.1.length := by omega
    subst this
    exact ⟨h, fun o h' kk => k_X8_change_19 hM.g (fun _ => kk) (fun q => absurd (by rw [hB.n]; exact nI_le (by omega) (by omega)) q), Upf.rf, hB, hs, hsj⟩
  | succ n ih =>
    intro j h s hj hl hpj hs hsj hM hB
    have n8 := hB.n8
    have l8 := hB.l8
    have hjl : j < σ.1.length := by omega
    have hs' := stOK_chg (σ := σ) (p := p) (q := j) hs hB.ok l8 (by omega) (by omega)
    have hsj' := chgS_lt (σ := σ) hsj
    obtain ⟨⟨s1, s2⟩, s3, s4⟩ := hs
    have ent : ∀ {o : Option Value} {h' : PH}, J mX8_change (d + 6) 28 [some (.ref m), some (.int (sI s.1)), some (.int (sI s.2)), some (.int (nI p)), some (.int (nI j)), none, none, none] [] h o h' → J mX8_change (d + 6) 19 [some (.ref m), some (.int (sI s.1)), some (.int (sI s.2)), some (.int (nI p)), some (.int (nI j)), none, none, none] [] h o h' := fun kk => k_X8_change_19 hM.g (fun q => absurd q (by rw [hB.n]; exact nI_ge hjl (by omega))) (fun _ => kk)
    have hinp := u_isIn (d := d + 4) (x := p) hM hB o1 (by omega)
    have hinj := u_isIn (d := d + 4) (x := j) hM hB o1 (by omega)
    rw [itF_1]
    have skip : chgS σ p j s = s → ∃ h1, (∀ o h', J mX8_change (d + 6) 133 [some (.ref m), some (.int (sI (itF (chgS σ p) n (j + 1) (chgS σ p j s)).1)), some (.int (sI (itF (chgS σ p) n (j + 1) (chgS σ p j s)).2)), some (.int (nI p)), some (.int (nI σ.1.length)), none, none, none] [] h1 o h' → J mX8_change (d + 6) 127 [some (.ref m), some (.int (sI s.1)), some (.int (sI s.2)), some (.int (nI p)), some (.int (nI j)), none, none, none] [] h o h') ∧ Upf (fV m) h h1 ∧ MB h1 m σ ∧ stOK (itF (chgS σ p) n (j + 1) (chgS σ p j s)) ∧ (itF (chgS σ p) n (j + 1) (chgS σ p j s)).1 < 10 * p + σ.1.length := fun e => by
      obtain ⟨h1, b1, b2, b3, b4, b5⟩ := ih (j + 1) h _ (by omega) (by omega) (by omega) hs' (by omega) hM hB
      refine ⟨h1, fun o h' kk => k_X8_change_127 ?_, b2, b3, b4, b5⟩
      rw [nI_1]
      have := b1 o h' kk
      rw [e] at this
      exact this
    cases hk : (courseF σ.2.1 p 0).isSome with
    | false =>
      rw [hk] at hinp
      obtain ⟨h1, b1, b2⟩ := skip (by unfold chgS; rw [hk, Bool.false_and, if_neg (by decide)])
      exact ⟨h1, fun o h' kk => ent (k_X8_change_28 hinp (Or.inl rfl) hM.g (fun _ => b1 o h' kk) (fun z => absurd rfl z)), b2⟩
    | true =>
      rw [hk] at hinp
      cases hk2 : (courseF σ.2.1 j 0).isSome with
      | false =>
        rw [hk2] at hinj
        obtain ⟨h1, b1, b2⟩ := skip (by unfold chgS; rw [hk2, Bool.and_false, if_neg (by decide)])
        exact ⟨h1, fun o h' kk => ent (k_X8_change_28 hinp (Or.inl rfl) hM.g (fun z => absurd z (by decide)) (fun _ => k_X8_change_36 hinj (Or.inl rfl) hM.g (fun _ => b1 o h' kk) (fun z => absurd rfl z))), b2⟩
      | true =>
        rw [hk2] at hinj
        obtain ⟨e1, e2⟩ := crs_some hk
        obtain ⟨e3, e4⟩ := crs_some hk2
        have hcp := u_courseOf (d := d + 5) (x := p) hM hB o1 (by omega)
        have hcj := u_courseOf (d := d + 5) (x := j) hM hB o1 (by omega)
        rw [e1] at hcp
        rw [e3] at hcj
        have sl : (swapL σ.2.1 (crsN σ.2.1 p) (crsN σ.2.1 j)).length = σ.2.1.length := swapL_len
        obtain ⟨h2, a1, a2, a3⟩ := u_changes (d := d + 5) hM hB e2 e4
        have hM2 := hM.keep a2
        obtain ⟨t1, t2⟩ := u_least (d := d + 2) hM2 a3 (swapL_in o1 e2 e4) (by show 0 < (swapL _ _ _).length; omega)
        obtain ⟨h3, c1, c2, c3⟩ := u_changes (d := d + 5) (a := crsN σ.2.1 p) (b := crsN σ.2.1 j) hM2 a3 (by show _ < (swapL _ _ _).length; omega) (by show _ < (swapL _ _ _).length; omega)
        have c3 : MB h3 m (σ.1, swapL (swapL σ.2.1 (crsN σ.2.1 p) (crsN σ.2.1 j)) (crsN σ.2.1 p) (crsN σ.2.1 j), σ.2.2) := c3
        rw [swap_swap e2 e4] at c3
        have U : Upf (fV m) h h3 := (a2.tr c2).mono (fun i k => fPV)
        have lb := slackZ_lsl (P := σ.1) (L := swapL σ.2.1 (crsN σ.2.1 p) (crsN σ.2.1 j)) hB.ok (by omega)
        obtain ⟨h1, b1, b2, b3⟩ := ih (j + 1) h3 _ (by omega) (by omega) (by omega) hs' (by omega) (hM2.keep c2) c3
        generalize hz : lslZ σ.1 (swapL σ.2.1 (crsN σ.2.1 p) (crsN σ.2.1 j)) = z at lb
        have t2 : JMt mX8_slackAt (some .int) (d + 5) [.ref m, .int (nI (leastK σ.1 (swapL σ.2.1 (crsN σ.2.1 p) (crsN σ.2.1 j))))] h2 (some (.int (sI (lslZ σ.1 (swapL σ.2.1 (crsN σ.2.1 p) (crsN σ.2.1 j)))))) h2 := t2
        rw [hz] at t2
        have e : chgS σ p j s = if s.1 = -1 ∨ s.2 < z then (((10 * p + j : Nat) : Int), z) else s := by unfold chgS; rw [hk, hk2, Bool.true_and, if_pos rfl, hz]
        have hm1 : sI s.1 = -1 ↔ s.1 = -1 := sI_neg1 s1 (by omega)
        have hle : sI z ≤ sI s.2 ↔ z ≤ s.2 := sI_le (by omega) (by omega) (by omega) (by omega)
        have ec : (10 : Int32) * nI p + nI j = nI (10 * p + j) := by rw [show (10 : Int32) = nI 10 from rfl, pk_mul, nI_add]
        have hne : sI s.1 ≠ nI (10 * p + j) := fun y => by rw [nI_sI, sI_eq (by omega) (by omega) (by omega) (by omega)] at y; omega
        have yes : ∀ {o : Option Value} {h' : PH}, J mX8_change (d + 6) 133 [some (.ref m), some (.int (sI (itF (chgS σ p) n (j + 1) (chgS σ p j s)).1)), some (.int (sI (itF (chgS σ p) n (j + 1) (chgS σ p j s)).2)), some (.int (nI p)), some (.int (nI σ.1.length)), none, none, none] [] h1 o h' → s.1 = -1 ∨ s.2 < z → J mX8_change (d + 6) 97 [some (.ref m), some (.int (sI s.1)), some (.int (sI s.2)), some (.int (nI p)), some (.int (nI j)), some (.int (nI (crsN σ.2.1 p))), some (.int (nI (crsN σ.2.1 j))), some (.int (sI z))] [] h3 o h' := fun kk y => by
          have := b1 _ _ kk
          rw [if_pos y] at e
          rw [e] at this
          refine k_X8_change_97 (k_X8_change_108 (fun w => absurd rfl w) (fun _ => k_X8_change_120 (k_X8_change_126 (k_X8_change_127 ?_))))
          rw [nI_1, ec, nI_sI (10 * p + j)]
          exact this
        have no : ∀ {o : Option Value} {h' : PH}, J mX8_change (d + 6) 133 [some (.ref m), some (.int (sI (itF (chgS σ p) n (j + 1) (chgS σ p j s)).1)), some (.int (sI (itF (chgS σ p) n (j + 1) (chgS σ p j s)).2)), some (.int (nI p)), some (.int (nI σ.1.length)), none, none, none] [] h1 o h' → ¬ (s.1 = -1 ∨ s.2 < z) → J mX8_change (d + 6) 107 [some (.ref m), some (.int (sI s.1)), some (.int (sI s.2)), some (.int (nI p)), some (.int (nI j)), some (.int (nI (crsN σ.2.1 p))), some (.int (nI (crsN σ.2.1 j))), some (.int (sI z))] [] h3 o h' := fun kk y => by
          have := b1 _ _ kk
          rw [if_neg y] at e
          rw [e] at this
          refine k_X8_change_107 (k_X8_change_108 (fun _ => k_X8_change_125 (k_X8_change_126 (k_X8_change_127 ?_))) (fun w => absurd (by rw [← ec]; exact w) hne))
          rw [nI_1]
          exact this
        exact ⟨h1, fun o h' kk => ent (k_X8_change_28 hinp (Or.inl rfl) hM.g (fun z => absurd z (by decide)) (fun _ => k_X8_change_36 hinj (Or.inl rfl) hM.g (fun z => absurd z (by decide)) (fun _ => k_X8_change_45 hcp (Or.inl rfl) hM.g hcj (Or.inl rfl) hM.g a1 (Or.inl a2.1) hM.g t1 (Or.inl rfl) hM2.g t2 (Or.inl rfl) hM2.g c1 (Or.inl c2.1) hM2.g (fun q => yes kk (Or.inl (hm1.mp q))) (fun q => k_X8_change_91 (fun q2 => no kk (fun z => z.elim (fun y => q (hm1.mpr y)) (fun y => absurd (hle.mp q2) (by omega)))) (fun q2 => yes kk (Or.inr (Int.not_le.mp (fun y => q2 (hle.mpr y))))))))), U.tr b2, b3⟩
theorem v_change {σ : WS} (o1 : inP σ.1 σ.2.1) : ∀ n j (h : PH) (s : Int × Int), σ.1.length - j = n → j ≤ σ.1.length → stOK s → s.1 < 10 * j → ModH h m → MB h m σ →
    ∃ h1, J mX8_change (d + 6) 6 [some (.ref m), some (.int (sI s.1)), some (.int (sI s.2)), some (.int (nI j)), none, none, none, none] [] h (some (.int (sI (itF (chgR σ) n j s).1))) h1 ∧ Upf (fV m) h h1 ∧ MB h1 m σ := by
  intro n
  induction n with
  | zero =>
    intro j h s hj hl hs hsj hM hB
    have n8 := hB.n8
    exact ⟨h, k_X8_change_6 hM.g (fun _ => k_X8_change_139) (fun q => absurd (by rw [hB.n]; exact nI_le (by omega) (by omega)) q), Upf.rf, hB⟩
  | succ n ih =>
    intro j h s hj hl hs hsj hM hB
    have n8 := hB.n8
    have hjl : j < σ.1.length := by omega
    obtain ⟨h2, a1, a2, a3, a4, a5⟩ := v_changeIn (d := d) (m := m) o1 hjl _ (j + 1) h s rfl (by omega) (by omega) hs (by omega) hM hB
    obtain ⟨h1, b1, b2, b3⟩ := ih (j + 1) h2 (chgR σ j s) (by omega) (by omega) a4 (by unfold chgR; omega) (hM.keep a2) a3
    rw [itF_1]
    refine ⟨h1, k_X8_change_6 hM.g (fun q => absurd q (by rw [hB.n]; exact nI_ge hjl (by omega))) (fun _ => k_X8_change_14 ?_), a2.tr b2, b3⟩
    rw [show nI j + (1 : Int32) = nI (j + 1) from nI_1 j]
    refine a1 _ _ (k_X8_change_133 ?_)
    rw [nI_1]
    exact b1
theorem m_change (hS : MS h m ko to T) : RfQ mX8_change (d + 10) [.ref m] h m ko to T (q_change T.1) := by
  have hS0 := hS
  obtain ⟨hT, hM, hB, hTp, hRf, hSh, hK, hTr⟩ := hS
  obtain ⟨o1, o2, o3, o4, o5, o6⟩ := hT.1
  have n8 := hB.n8
  have l8 := hB.l8
  obtain ⟨h1, a1, a2, a3⟩ := v_change (m := m) (d := d + 4) o1 _ 0 h (-1, 0) rfl (Nat.zero_le _) ⟨⟨by decide, by decide⟩, by decide, by decide⟩ (by decide) hM hB
  exact mqV hS0 ⟨h1, jm mi_X8_change (Nat.le_of_ble_eq_true rfl) ⟨.int, rfl, rfl⟩ rfl (k_X8_change_0 a1), a2.mono (fun i k q => Or.inl q), a3⟩
end TV
