/-! told climbs of the reference, copy -/
def orO (b r : Option Nat) : Option Nat := match b with
  | some x => some x
  | none => r
section SX
variable {d : Nat} {h : PH} {m : Nat} {ko to : Option Nat} {T : TS}
theorem v_climbs {σ : WS} {s n l : Nat} {v : Nat → Int64} (hs : s < 8) (hnl : n ≤ l) (hl40 : l ≤ 40) : ∀ k j (h : PH) (L : List Nat) (b : Option Nat), n - j = k → j ≤ n → inP σ.1 L → L.length ≤ σ.2.2.2.1 → σ.2.1.length ≤ L.length → (∀ i, i < σ.2.1.length → L.getD i 0 = σ.2.1.getD i 0) → ModH h m → MB h m (σ.1, L, σ.2.2) → (∀ y, y < l → hL h (m + 5 + s) y = v y) → hI h m 36 = -1 → hI h m 37 = oI b → (∀ x, b = some x → x < 40) →
    ∃ h1, J mX8_climbs (d + 6) 18 [some (.ref m), some (.int (nI s)), some (.int (nI n)), some (.int (nI σ.2.1.length)), some (.int (nI j)), none, none] [] h none h1 ∧ Upf (fVS m) h h1 ∧ MB h1 m σ ∧ hI h1 m 36 = oI (wrgF σ v k j L) ∧ (wrgF σ v k j L = none → hI h1 m 37 = oI (orO b (brkF σ v k j L))) := by
  -- the end
  have fin : ∀ (h : PH) (L : List Nat), σ.2.1.length ≤ L.length → (∀ i, i < σ.2.1.length → L.getD i 0 = σ.2.1.getD i 0) → MB h m (σ.1, L, σ.2.2) → Upf (fVS m) h (setI h m 20 (nI σ.2.1.length)) ∧ MB (setI h m 20 (nI σ.2.1.length)) m σ ∧ hI (setI h m 20 (nI σ.2.1.length)) m 36 = hI h m 36 ∧ hI (setI h m 20 (nI σ.2.1.length)) m 37 = hI h m 37 := fun h L hle hL hB => by
    have U : Upf (fun i k => i = m ∧ k = 20) h (setI h m 20 (nI σ.2.1.length)) := Upf.set ⟨rfl, rfl⟩
    have l8 := hB.l8
    have l8 : L.length ≤ 8 := l8
    refine ⟨U.mono (fun i k z => Or.inl (by unfold fV; omega)), ⟨hB.1.of (fun i k z => U.ii (by omega)), ⟨by rw [hI_setI]; exact if_pos ⟨rfl, rfl⟩, by omega, fun k hk => ?_⟩, hB.2.2.of (fun i k z => U.ii (by omega))⟩, U.ii (by omega), U.ii (by omega)⟩
    rw [U.ii (by omega), ← hL k hk]
    exact hB.sk (by show k < L.length; omega)
  intro k
  induction k with
  | zero =>
    intro j h L b hj hjn hi hlm hle hpre hM hB hv h36 h37 hb
    have : j = n := by omega
    subst this
    obtain ⟨f1, f2, f3, f4⟩ := fin h L hle hpre hB
    refine ⟨_, k_X8_climbs_18 (fun _ => k_X8_climbs_127 hM.g) (fun z => absurd (nI_le (Nat.le_refl _) (by omega)) z), f1, f2, by rw [f3]; exact h36, fun _ => ?_⟩
    rw [f4, h37]
    cases b <;> rfl
  | succ k ih =>
    intro j h L b hj hjn hi hlm hle hpre hM hB hv h36 h37 hb
    have n8 := hB.n8
    have l8 := hB.l8
    have m8 := hB.m8
    have n8 : σ.1.length ≤ 8 := n8
    have l8 : L.length ≤ 8 := l8
    have m8 : σ.2.2.2.1 ≤ 8 := m8
    have hjl : j < n := by omega
    have cs : (nI s).toNatClampNeg = s := nI_clamp (by omega)
    have cj : (nI j).toNatClampNeg = j := nI_clamp (by omega)
    have hz : hL h (m + 5 + s) (nI j).toNatClampNeg = v j := by rw [cj]; exact hv j (by omega)
    -- it is wrong here
    have stop : wrgF σ v (k + 1) j L = some j → ∃ h1, J mX8_climbs (d + 6) 73 [some (.ref m), some (.int (nI s)), some (.int (nI n)), some (.int (nI σ.2.1.length)), some (.int (nI j)), some (.long (v j)), none] [] h none h1 ∧ Upf (fVS m) h h1 ∧ MB h1 m σ ∧ hI h1 m 36 = oI (wrgF σ v (k + 1) j L) ∧ (wrgF σ v (k + 1) j L = none → hI h1 m 37 = oI (orO b (brkF σ v (k + 1) j L))) := fun e => by
      have U : Upf (fVS m) h (setI h m 36 (nI j)) := Upf.set (Or.inr (by unfold fS; omega))
      have U' : Upf (fS m) h (setI h m 36 (nI j)) := Upf.set (by unfold fS; omega)
      obtain ⟨f1, f2, f3, f4⟩ := fin (setI h m 36 (nI j)) L hle hpre (hB.keepS U')
      have e36 : hI (setI h m 36 (nI j)) m 36 = nI j := by rw [hI_setI]; exact if_pos ⟨rfl, rfl⟩
      have hM2 := hM.keep U
      have last : J mX8_climbs (d + 6) 127 [some (.ref m), some (.int (nI s)), some (.int (nI n)), some (.int (nI σ.2.1.length)), some (.int (nI j + 1)), none, none] [] (setI h m 36 (nI j)) none (setI (setI h m 36 (nI j)) m 20 (nI σ.2.1.length)) := k_X8_climbs_127 hM2.g
      refine ⟨_, k_X8_climbs_73 hM.g (k_X8_climbs_121 (k_X8_climbs_18 (fun _ => last) (fun _ => k_X8_climbs_24 hM2.g (fun _ => last) (fun z => absurd z (by rw [e36]; exact nI_nneg1 (by omega)))))), U.tr f1, f2, by rw [f3, e36, e]; rfl, fun z => by rw [e] at z; cases z⟩
    have hw : wrgF σ v (k + 1) j L = if badB σ (v j) L then some j else wrgF σ v k (j + 1) (insL L L.length (v j).toInt.toNat) := rfl
    have pre : ∀ {h1 : PH}, (¬ decide (0 ≤ (v j).toInt ∧ (v j).toInt < σ.1.length) = true → J mX8_climbs (d + 6) 73 [some (.ref m), some (.int (nI s)), some (.int (nI n)), some (.int (nI σ.2.1.length)), some (.int (nI j)), some (.long (v j)), none] [] h none h1) → (decide (0 ≤ (v j).toInt ∧ (v j).toInt < σ.1.length) = true → J mX8_climbs (d + 6) 52 [some (.ref m), some (.int (nI s)), some (.int (nI n)), some (.int (nI σ.2.1.length)), some (.int (nI j)), some (.long (v j)), none] [] h none h1) → J mX8_climbs (d + 6) 18 [some (.ref m), some (.int (nI s)), some (.int (nI n)), some (.int (nI σ.2.1.length)), some (.int (nI j)), none, none] [] h none h1 := fun {h1} k1 k2 => by
      have hp := t_isPersonL (d := d + 4) (z := v j) hM hB
      refine k_X8_climbs_18 (fun z => absurd z (nI_ge hjl (by omega))) (fun _ => k_X8_climbs_24 hM.g (fun z => absurd h36 z) (fun _ => ?_))
      have := k_X8_climbs_32 (d := d + 5) (h := h) (o := none) (h' := h1) (a1 := nI s) (a2 := nI n) (a3 := nI σ.2.1.length) (a4 := nI j) hM.g hM.r3 hM.g3 (Or.inr (Or.inl rfl)) (vp_in_nI (by omega) (by omega)) (by rw [cs]; exact hM.rw hs) (hM.gw hs) (vp_in_nI (by omega) (by omega)) (by rw [hz]; exact hp) (Or.inl rfl)
      rw [hz] at this
      exact this (fun q => k1 (by rw [Bool.not_eq_true]; exact bI_0.mp q)) (fun q => k2 (bI_n0.mp q))
    by_cases hdp : decide (0 ≤ (v j).toInt ∧ (v j).toInt < σ.1.length) = true
    · have hd := of_decide_eq_true hdp
      have e32 := long_I n8 hd
      have hpl : (v j).toInt.toNat < σ.1.length := by omega
      generalize hpp : (v j).toInt.toNat = p at *
      have hin := u_isIn (d := d + 4) (x := p) hM hB hi (by omega)
      have hbad : badB σ (v j) L = ((courseF L p 0).isSome || decide (σ.2.2.2.1 ≤ L.length)) := by
        unfold badB; rw [hdp, hpp]; rfl
      cases hk : (courseF L p 0).isSome with
      | true =>
        have hin : JMt mX8_isIn (some .boolean) (d + 5) [.ref m, .int (nI p)] h (some (.int (bI (courseF L p 0).isSome))) h := hin
        rw [hk] at hin
        rw [hk, Bool.true_or] at hbad
        obtain ⟨h1, s1, s2⟩ := stop (by rw [hw, hbad, if_pos rfl])
        exact ⟨h1, pre (fun z => absurd hdp z) (fun _ => k_X8_climbs_52 (by rw [e32]; exact hin) (Or.inl rfl) hM.g (fun _ => s1) (fun z => absurd z (by decide))), s2⟩
      | false =>
        have hin : JMt mX8_isIn (some .boolean) (d + 5) [.ref m, .int (nI p)] h (some (.int (bI (courseF L p 0).isSome))) h := hin
        rw [hk] at hin
        rw [hk, Bool.false_or] at hbad
        by_cases hlt : L.length < σ.2.2.2.1
        · rw [decide_eq_false (by omega)] at hbad
          rw [hw, hbad, if_neg (by decide)]
          -- he climbs
          obtain ⟨h3, a1, a2, a3⟩ := u_puts (d := d + 5) (x := p) hM hB (Nat.le_refl _) (by show L.length < 8; omega)
          have a1 : JMt mX8_puts none (d + 5) [.ref m, .int (nI L.length), .int (nI p)] h none h3 := a1
          have a3 : MB h3 m (σ.1, insL L L.length p, σ.2.2) := a3
          have hM3 := hM.keep a2
          have il : (insL L L.length p).length = L.length + 1 := insL_len (Nat.le_refl _)
          have hin3 : inP σ.1 (insL L L.length p) := insL_in hi hpl
          have e37 : hI h3 m 37 = oI b := by rw [a2.ii (by unfold fP; omega)]; exact h37
          have st := u_isStanding (d := d) hM3 a3 hin3
          have st : JMt mX8_isStanding (some .boolean) (d + 5) [.ref m] h3 (some (.int (bI (firmB σ.1 σ.2.2.1 (insL L L.length p))))) h3 := st
          have go : ∀ b' : Option Nat, (∀ x, b' = some x → x < 40) → ∃ h1, J mX8_climbs (d + 6) 118 [some (.ref m), some (.int (nI s)), some (.int (nI n)), some (.int (nI σ.2.1.length)), some (.int (nI j)), some (.long (v j)), none] [.int (oI b'), .ref m] h3 none h1 ∧ Upf (fVS m) h3 h1 ∧ MB h1 m σ ∧ hI h1 m 36 = oI (wrgF σ v k (j + 1) (insL L L.length p)) ∧ (wrgF σ v k (j + 1) (insL L L.length p) = none → hI h1 m 37 = oI (orO b' (brkF σ v k (j + 1) (insL L L.length p)))) := fun b' hb' => by
            have U' : Upf (fS m) h3 (setI h3 m 37 (oI b')) := Upf.set (by unfold fS; omega)
            obtain ⟨h1, i1, i2, i3, i4, i5⟩ := ih (j + 1) (setI h3 m 37 (oI b')) (insL L L.length p) b' (by omega) (by omega) hin3 (by omega) (by omega) (fun i hi' => by rw [insL_get (Nat.le_refl _), if_pos (by omega)]; exact hpre i hi') (hM3.keep U') (a3.keepS U') (fun y hy => by rw [U'.ll, a2.ll]; exact hv y hy) (by rw [hI_setI, if_neg (by omega), a2.ii (by unfold fP; omega)]; exact h36) (by rw [hI_setI]; exact if_pos ⟨rfl, rfl⟩) hb'
            exact ⟨h1, k_X8_climbs_118 hM3.g (k_X8_climbs_121 (by rw [nI_1]; exact i1)), (U'.mono (fun i k z => Or.inr z)).tr i2, i3, i4, i5⟩
          have ent : ∀ {h1 : PH}, (¬ hI h3 m 37 = -1 → J mX8_climbs (d + 6) 114 [some (.ref m), some (.int (nI s)), some (.int (nI n)), some (.int (nI σ.2.1.length)), some (.int (nI j)), some (.long (v j)), none] [.ref m] h3 none h1) → (hI h3 m 37 = -1 → J mX8_climbs (d + 6) 102 [some (.ref m), some (.int (nI s)), some (.int (nI n)), some (.int (nI σ.2.1.length)), some (.int (nI j)), some (.long (v j)), none] [.ref m] h3 none h1) → J mX8_climbs (d + 6) 18 [some (.ref m), some (.int (nI s)), some (.int (nI n)), some (.int (nI σ.2.1.length)), some (.int (nI j)), none, none] [] h none h1 := fun k1 k2 => pre (fun z => absurd hdp z) (fun _ => k_X8_climbs_52 (by rw [e32]; exact hin) (Or.inl rfl) hM.g (fun z => absurd rfl z) (fun _ => k_X8_climbs_62 hM.g (fun _ => k_X8_climbs_82 hM.g (by rw [hB.sz, e32]; exact a1) (Or.inl a2.1) hM3.g k1 k2) (fun z => absurd (by rw [hB.sz, hB.mo]; exact nI_lt hlt (by omega)) z)))
          cases b with
          | some x =>
            obtain ⟨h1, g1, g2, g3, g4, g5⟩ := go (some x) hb
            have hx := hb x rfl
            refine ⟨h1, ent (fun _ => k_X8_climbs_114 hM3.g (by rw [e37]; exact g1)) (fun z => absurd z (by rw [e37]; exact nI_nneg1 (n := x) (by omega))), (a2.mono (fun i k z => Or.inl (fPV z))).tr g2, g3, g4, g5⟩
          | none =>
            have hbr : brkF σ v (k + 1) j L = if firmB σ.1 σ.2.2.1 (insL L L.length p) then brkF σ v k (j + 1) (insL L L.length p) else some j := by
              show (if firmB σ.1 σ.2.2.1 (insL L L.length (v j).toInt.toNat) then brkF σ v k (j + 1) (insL L L.length (v j).toInt.toNat) else some j) = _
              rw [hpp]
            cases hf : firmB σ.1 σ.2.2.1 (insL L L.length p) with
            | true =>
              rw [hf] at st
              rw [hf, if_pos rfl] at hbr
              obtain ⟨h1, g1, g2, g3, g4, g5⟩ := go none (fun x z => by cases z)
              refine ⟨h1, ent (fun z => absurd e37 z) (fun _ => k_X8_climbs_102 st (Or.inl rfl) hM3.g (fun _ => k_X8_climbs_114 hM3.g (by rw [e37]; exact g1)) (fun z => absurd z (by decide))), (a2.mono (fun i k z => Or.inl (fPV z))).tr g2, g3, g4, fun z => by rw [g5 z]; unfold orO; rw [hbr]⟩
            | false =>
              rw [hf] at st
              rw [hf, if_neg (by decide)] at hbr
              obtain ⟨h1, g1, g2, g3, g4, g5⟩ := go (some j) (fun x z => by cases z; omega)
              refine ⟨h1, ent (fun z => absurd e37 z) (fun _ => k_X8_climbs_102 st (Or.inl rfl) hM3.g (fun z => absurd rfl z) (fun _ => k_X8_climbs_109 g1)), (a2.mono (fun i k z => Or.inl (fPV z))).tr g2, g3, g4, fun z => by rw [g5 z]; unfold orO; rw [hbr]⟩
        · rw [decide_eq_true (by omega)] at hbad
          obtain ⟨h1, s1, s2⟩ := stop (by rw [hw, hbad, if_pos rfl])
          exact ⟨h1, pre (fun z => absurd hdp z) (fun _ => k_X8_climbs_52 (by rw [e32]; exact hin) (Or.inl rfl) hM.g (fun z => absurd rfl z) (fun _ => k_X8_climbs_62 hM.g (fun z => absurd z (by rw [hB.sz, hB.mo]; exact nI_nlt (a := L.length) (b := σ.2.2.2.1) (by omega) (by omega))) (fun _ => s1))), s2⟩
    · have hbad : badB σ (v j) L = true := by
        unfold badB
        rw [Bool.not_eq_true] at hdp
        rw [hdp]
        rfl
      obtain ⟨h1, s1, s2⟩ := stop (by rw [hw, hbad, if_pos rfl])
      exact ⟨h1, pre (fun _ => s1) (fun z => absurd z hdp), s2⟩
theorem u_climbs {s n l : Nat} {v : Nat → Int64} (hs : s < 8) (hnl : n ≤ l) (hl40 : l ≤ 40) (hS : MS h m ko to T) (hv : ∀ y, y < l → hL h (m + 5 + s) y = v y) : ∃ h1, JMt mX8_climbs none (d + 6) [.ref m, .int (nI s), .int (nI n)] h none h1 ∧ Upf (fVS m) h h1 ∧ MB h1 m T.1 ∧ hI h1 m 36 = oI (wrgF T.1 v n 0 T.1.2.1) ∧ (wrgF T.1 v n 0 T.1.2.1 = none → hI h1 m 37 = oI (brkF T.1 v n 0 T.1.2.1)) := by
  have hS0 := hS
  obtain ⟨hT, hM, hB, hTp, hRf, hSh, hK, hTr⟩ := hS
  obtain ⟨o1, o2, o3, o4, o5, o6⟩ := hT.1
  have n8 := hB.n8
  have l8 := hB.l8
  have U : Upf (fS m) h (setI (setI h m 36 (-1)) m 37 (-1)) := (Upf.set (by unfold fS; omega)).st (by unfold fS; omega)
  obtain ⟨h1, a1, a2, a3, a4, a5⟩ := v_climbs (d := d) (m := m) (σ := T.1) (s := s) (n := n) (l := l) (v := v) hs hnl hl40 n 0 (setI (setI h m 36 (-1)) m 37 (-1)) T.1.2.1 none rfl (Nat.zero_le _) o1 o3 (Nat.le_refl _) (fun _ _ => rfl) (hM.keep U) (hB.keepS U) (fun y hy => by rw [U.ll]; exact hv y hy) (by rw [hI_setI, if_neg (by omega), hI_setI, if_pos ⟨rfl, rfl⟩]) (by rw [hI_setI, if_pos ⟨rfl, rfl⟩]; rfl) (fun x z => by cases z)
  exact ⟨h1, jm mi_X8_climbs (Nat.le_of_ble_eq_true rfl) rfl rfl (k_X8_climbs_0 hM.g (by rw [hB.sz]; exact a1)), (U.mono (fun i k z => Or.inr z)).tr a2, a3, a4, a5⟩
theorem m_judge {s n : Int32} (hS : MS h m ko to T) : RfQ mX8_judge (d + 10) [.ref m, .int s, .int n] h m ko to T (q_judge T s n) := by
  have hS0 := hS
  obtain ⟨hT, hM, hB, hTp, hRf, hSh, hK, hTr⟩ := hS
  obtain ⟨o1, o2, o3, o4, o5, o6⟩ := hT.1
  have n8 := hB.n8
  have l8 := hB.l8
  obtain ⟨v, h1, a1, a2, a3⟩ := u_noClimb (d := d + 7) (s := s) (n := n) hS0
  have bad : ∀ k, nkK T s n = some k → RfQ mX8_judge (d + 10) [.ref m, .int s, .int n] h m ko to T (.inl k) := fun k e => by
    rw [e] at a3
    obtain ⟨hk, rfl, b, c⟩ := a3
    have hr : ∀ k, k < 5 → ¬ rfI k = 0 := by decide
    exact ⟨h1, jm mi_X8_judge (Nat.le_of_ble_eq_true rfl) ⟨.int, rfl, rfl⟩ rfl (k_X8_judge_0 a1 (Or.inl a2) hM.g (fun y => absurd y (hr k hk)) (fun _ => k_X8_judge_11)), b.mono (fun i k y => by unfold fM; omega), c⟩
  unfold nkK at bad a3
  unfold q_judge
  cases hb : inB s 0 7 with
  | false =>
    rw [hb, Bool.false_and, if_neg (by decide)] at bad
    rw [Bool.false_and, if_neg (by decide)]
    exact bad 0 rfl
  | true =>
    cases hb2 : inB n 0 40 with
    | false =>
      rw [hb, hb2, Bool.true_and, if_neg (by decide)] at bad
      rw [Bool.true_and, if_neg (by decide)]
      exact bad 0 rfl
    | true =>
      rw [hb, hb2, Bool.true_and, if_pos rfl] at bad a3
      rw [Bool.true_and, if_pos rfl]
      obtain ⟨k, hk, rfl⟩ := inB_nI (n := 7) (by omega) hb
      obtain ⟨n, hn, rfl⟩ := inB_nI (n := 40) (by omega) hb2
      rw [shfA_in (by omega)] at bad a3 ⊢
      rw [nn_I (by omega)] at bad a3 ⊢
      have hq := hSh k (by omega)
      generalize T.2.2.1 k = q at hq bad a3
      match q, hq, bad, a3 with
      | none, q1, bad, a3 => exact bad 2 rfl
      | some (.inl p), q1, bad, a3 => exact bad 1 rfl
      | some (.inr (sort, l, v')), ⟨q1, q2, q3, q4, q5, q6⟩, bad, a3 =>
        dsimp only at bad a3 ⊢
        by_cases hl : n ≤ l
        · rw [if_pos hl] at a3
          rw [if_pos hl]
          obtain ⟨rfl, rfl⟩ := a3
          obtain ⟨h2, c1, c2, c3, c4, c5⟩ := u_climbs (d := d + 3) (by omega) hl q4 hS0 q6
          have hM2 := hM.keep c2
          have kk := k_X8_judge_13 (d := d + 9) (a1 := nI k) (a2 := nI n) (a3 := 0) c1 (Or.inl c2.1) hM.g hM2.g
          rw [c4] at kk
          exact mqV hS0 ⟨h2, jm mi_X8_judge (Nat.le_of_ble_eq_true rfl) ⟨.int, rfl, rfl⟩ rfl (k_X8_judge_0 a1 (Or.inl a2) hM.g (fun _ => kk) (fun y => absurd rfl y)), c2, c3⟩
        · rw [if_neg hl] at bad ⊢
          exact bad 0 rfl
theorem m_breaks {s n : Int32} (hS : MS h m ko to T) : RfQ mX8_breaks (d + 10) [.ref m, .int s, .int n] h m ko to T (q_breaks T s n) := by
  have hS0 := hS
  obtain ⟨hT, hM, hB, hTp, hRf, hSh, hK, hTr⟩ := hS
  obtain ⟨o1, o2, o3, o4, o5, o6⟩ := hT.1
  have n8 := hB.n8
  have l8 := hB.l8
  obtain ⟨v, h1, a1, a2, a3⟩ := u_noClimb (d := d + 7) (s := s) (n := n) hS0
  have bad : ∀ k, nkK T s n = some k → RfQ mX8_breaks (d + 10) [.ref m, .int s, .int n] h m ko to T (.inl k) := fun k e => by
    rw [e] at a3
    obtain ⟨hk, rfl, b, c⟩ := a3
    have hr : ∀ k, k < 5 → ¬ rfI k = 0 := by decide
    exact ⟨h1, jm mi_X8_breaks (Nat.le_of_ble_eq_true rfl) ⟨.int, rfl, rfl⟩ rfl (k_X8_breaks_0 a1 (Or.inl a2) hM.g (fun y => absurd y (hr k hk)) (fun _ => k_X8_breaks_11)), b.mono (fun i k y => by unfold fM; omega), c⟩
  unfold nkK at bad a3
  unfold q_breaks
  cases hb : inB s 0 7 with
  | false =>
    rw [hb, Bool.false_and, if_neg (by decide)] at bad
    rw [Bool.false_and, if_neg (by decide)]
    exact bad 0 rfl
  | true =>
    cases hb2 : inB n 0 40 with
    | false =>
      rw [hb, hb2, Bool.true_and, if_neg (by decide)] at bad
      rw [Bool.true_and, if_neg (by decide)]
      exact bad 0 rfl
    | true =>
      rw [hb, hb2, Bool.true_and, if_pos rfl] at bad a3
      rw [Bool.true_and, if_pos rfl]
      obtain ⟨k, hk, rfl⟩ := inB_nI (n := 7) (by omega) hb
      obtain ⟨n, hn, rfl⟩ := inB_nI (n := 40) (by omega) hb2
      rw [shfA_in (by omega)] at bad a3 ⊢
      rw [nn_I (by omega)] at bad a3 ⊢
      have hq := hSh k (by omega)
      generalize T.2.2.1 k = q at hq bad a3
      match q, hq, bad, a3 with
      | none, q1, bad, a3 => exact bad 2 rfl
      | some (.inl p), q1, bad, a3 => exact bad 1 rfl
      | some (.inr (sort, l, v')), ⟨q1, q2, q3, q4, q5, q6⟩, bad, a3 =>
        dsimp only at bad a3 ⊢
        by_cases hl : n ≤ l
        · rw [if_pos hl] at a3
          rw [if_pos hl]
          obtain ⟨rfl, rfl⟩ := a3
          obtain ⟨h2, c1, c2, c3, c4, c5⟩ := u_climbs (d := d + 3) (by omega) hl q4 hS0 q6
          have hM2 := hM.keep c2
          have hS2 := hS0.same c2 c3
          cases hw : wrgF T.1 v' n 0 T.1.2.1 with
          | none =>
            rw [hw] at c4 c5
            rw [if_neg (by decide)]
            have c5 := c5 rfl
            refine mqV hS0 ⟨h2, jm mi_X8_breaks (Nat.le_of_ble_eq_true rfl) ⟨.int, rfl, rfl⟩ rfl (k_X8_breaks_0 a1 (Or.inl a2) hM.g (fun _ => k_X8_breaks_13 c1 (Or.inl c2.1) hM.g hM2.g (fun _ => k_X8_breaks_37 hM2.g (ji c5 k_X8_breaks_41)) (fun y => absurd c4 y)) (fun y => absurd rfl y)), c2, c3⟩
          | some x =>
            rw [hw] at c4
            have hx := wrgF_lt _ _ _ _ hw
            rw [if_pos (show (some x).isSome = true from rfl)]
            obtain ⟨h3, r1, r2, r3⟩ := u_refuse (k := 3) (d := d + 9) (by omega) hS2
            exact ⟨h3, jm mi_X8_breaks (Nat.le_of_ble_eq_true rfl) ⟨.int, rfl, rfl⟩ rfl (k_X8_breaks_0 a1 (Or.inl a2) hM.g (fun _ => k_X8_breaks_13 c1 (Or.inl c2.1) hM.g hM2.g (fun y => absurd y (by rw [c4]; exact nI_nneg1 (n := x) (by omega))) (fun _ => k_X8_breaks_27 r1 (Or.inl r2.1) hM2.g k_X8_breaks_41)) (fun y => absurd rfl y)), (c2.mono (fun i k => fVSM)).tr (r2.mono (fun i k y => by unfold fM; omega)), r3⟩
        · rw [if_neg hl] at bad ⊢
          exact bad 0 rfl
end SX
