/-! lineups: the greatest joy, the highest set -/
section HI
variable {d : Nat} {h : PH} {z c f S : Nat} {P : List Pers} {ok : Nat → Nat → Bool}
/-- joys of the sets from b on -/
def JoyS (h : PH) (z S b : Nat) (P : List Pers) (ok : Nat → Nat → Bool) : Prop := ∀ x, b ≤ x → x ≤ S → rch ok 0 x → 0 < ways P.length S ok x → ∀ i, i < P.length → x.testBit i = true → hI h (z + 6) (8 * x + i) = sI (glads P.length S ok (fondP P) x i)
theorem l_joys {a1 : Int32} (hk : stepsOK P.length S ok) (sc : c ≠ z + 6) (sf : f ≠ z + 6) : ∀ b (h : PH), b ≤ S → LinT h z c → CrowdS h c f P → ExpS h z P.length S ok → JoyS h z S (b + 1) P ok →
    ∃ h1, (∀ o h', J mX1_greatestJoy (d + 3) 44 [some (.ref z), some (.int a1), some (.int 0)] [] h1 o h' → J mX1_greatestJoy (d + 3) 18 [some (.ref z), some (.int a1), some (.int (nI b))] [] h o h') ∧ Upd (fun i => i = z + 6) h h1 ∧ JoyS h1 z S 1 P ok := by
  have h8 := hk.1
  have h256 := pow_le8 h8
  have hSl := hk.2.1
  intro b
  induction b with
  | zero =>
    intro h hb hZ hC hE hJ
    exact ⟨h, fun o h' kk => k_X1_greatestJoy_18 (fun _ => kk) (fun y => absurd (Int32.le_refl _) y), Upd.rf, hJ⟩
  | succ b ih =>
    intro h hb hZ hC hE hJ
    have eb : nI (b + 1) + (-1 : Int32) = nI b := pk_m1 b
    have pw : ∀ v, hI h (z + 4) (b + 1) = v → JMt mX7_pick (some .int) (d + 2) [.ref (z + 4), .int (nI (b + 1))] h (some (.int v)) h := fun v e => by
      rw [← e]; exact t_pick hZ.2.2.2.2.2.2.2.2.2.2.2.1 (by omega) (by omega)
    have skip : (∀ x, x = b + 1 → ¬ (rch ok 0 x ∧ 0 < ways P.length S ok x)) → ∃ v : Int32, hI h (z + 4) (b + 1) = v ∧ v ≤ 0 := fun hn => by
      by_cases hr : rch ok 0 (b + 1)
      · have e := (hE.2.1 _ hb hr).1
        have : ways P.length S ok (b + 1) = 0 := by
          have := hn _ rfl
          rcases Nat.eq_zero_or_pos (ways P.length S ok (b + 1)) with y | y
          · exact y
          · exact absurd ⟨hr, y⟩ this
        rw [this] at e
        exact ⟨_, e, Int32.le_refl _⟩
      · exact ⟨_, hE.2.2 _ hb hr, Int32.le_refl _⟩
    by_cases hrw : rch ok 0 (b + 1) ∧ 0 < ways P.length S ok (b + 1)
    · obtain ⟨hr, hw⟩ := hrw
      have hwl := ways_lt hk (b + 1)
      obtain ⟨h1, c1, c2, c3, c4⟩ := t_fillJoys (d := d) hk hr (by omega) hw sc sf hZ hC hE (fun p hp => by
        unfold leadB at hp
        rw [Bool.and_eq_true, decide_eq_true_eq] at hp
        have hr2 := rch_sn hr hp.1
        exact hJ _ (lt_or (hk.2.2 _ p hp.1).2) (subS_le (rch_sub hk subS_0 hr2)) hr2 hp.2 p (bit_lt hk.2.1 (hk.2.2 _ p hp.1).1) (by rw [or_bit]; simp))
      have hE1 := hE.keep c2 (fun i y e => by unfold expZ at y; omega)
      obtain ⟨h2, i1, i2, i3⟩ := ih h1 (by omega) (hZ.keep2 c2 (by omega) (by omega)) (hC.keep c2 sc sf) hE1 (fun x hx hxS hrx hwx i hi hbi => by
        by_cases e : x = b + 1
        · subst e; exact c3 i hi hbi
        · rw [c4 _ (fun i' hi' => by omega)]; exact hJ x (by omega) hxS hrx hwx i hi hbi)
      refine ⟨h2, fun o h' kk => k_X1_greatestJoy_18 (fun y => absurd y (nI_nle (by omega) (by omega))) (fun _ => k_X1_greatestJoy_22 hZ.1 hZ.2.2.2.2.2.1 (pw _ (hE.2.1 _ hb hr).1) (Or.inl rfl) (fun y => absurd y (nI_nle hw (by omega))) (fun _ => k_X1_greatestJoy_33 c1 (Or.inl c2.1) hZ.1 (k_X1_greatestJoy_38 (by rw [eb]; exact i1 o h' kk)))), c2.tr i2, i3⟩
    · obtain ⟨v, v1, v2⟩ := skip (fun x hx => by rw [hx]; exact hrw)
      obtain ⟨h2, i1, i2, i3⟩ := ih h (by omega) hZ hC hE (fun x hx hxS hrx hwx => by
        by_cases e : x = b + 1
        · subst e; exact absurd ⟨hrx, hwx⟩ hrw
        · exact hJ x (by omega) hxS hrx hwx)
      exact ⟨h2, fun o h' kk => k_X1_greatestJoy_18 (fun y => absurd y (nI_nle (by omega) (by omega))) (fun _ => k_X1_greatestJoy_22 hZ.1 hZ.2.2.2.2.2.1 (pw v v1) (Or.inl rfl) (fun _ => k_X1_greatestJoy_38 (by rw [eb]; exact i1 o h' kk)) (fun y => absurd v2 y)), i2, i3⟩
theorem gladT_b (P : List Pers) (S : Nat) (ok : Nat → Nat → Bool) (j : Nat) : -1 ≤ maxZ (fun p => if ok 0 p then glads P.length S ok (fondP P) (2 ^ p) p else -1) (if S = 0 then 0 else -1) j ∧ maxZ (fun p => if ok 0 p then glads P.length S ok (fondP P) (2 ^ p) p else -1) (if S = 0 then 0 else -1) j ≤ 90 := by
  constructor
  · refine Int.le_trans ?_ (maxZ_ge j)
    split <;> omega
  · refine maxZ_le j (by split <;> omega) (fun p _ => ?_)
    have := (glads_b (n := P.length) (S := S) (ok := ok) (fondP_le P) (2 ^ p) p).2
    split <;> omega
theorem l_joyTop (hk : stepsOK P.length S ok) (hZ : LinT h z c) (hC : CrowdS h c f P) (hE : ExpS h z P.length S ok) (hJ : JoyS h z S 1 P ok) : ∀ m j, P.length - j = m → j ≤ P.length → J mX1_greatestJoy (d + 3) 46 [some (.ref z), some (.int (sI (maxZ (fun p => if ok 0 p then glads P.length S ok (fondP P) (2 ^ p) p else -1) (if S = 0 then 0 else -1) j))), some (.int (nI j))] [] h (some (.int (sI (gladT P S ok)))) h := by
  have h8 := hk.1
  have h256 := pow_le8 h8
  have hSl := hk.2.1
  intro m
  induction m with
  | zero =>
    intro j hm hj
    have e : j = P.length := by omega
    subst e
    exact k_X1_greatestJoy_46 hZ.1 hZ.2.1 hC.1 (fun _ => k_X1_greatestJoy_86) (fun y => absurd (by rw [hC.2.2.2.1]; exact nI_le (by omega) (by omega)) y)
  | succ m ih =>
    intro j hm hj
    have hjl : j < P.length := by omega
    have nx := ih (j + 1) (by omega) (by omega)
    have bM := gladT_b P S ok j
    have bG := glads_b (n := P.length) (S := S) (ok := ok) (fondP_le P) (2 ^ j) j
    rw [maxZ] at nx
    refine k_X1_greatestJoy_46 hZ.1 hZ.2.1 hC.1 (fun y => absurd y (by rw [hC.2.2.2.1]; exact nI_ge hjl (by omega))) (fun _ => k_X1_greatestJoy_57 (by exact t_leadsOn (b := 0) (d := d + 1) hk hZ hE rch_rf hjl) (Or.inl rfl) hZ.1 (fun y => k_X1_greatestJoy_80 ?_) (fun y => ?_))
    · have y' := bI_0.mp y
      have : (if ok 0 j then glads P.length S ok (fondP P) (2 ^ j) j else -1) = -1 := by
        cases ho : ok 0 j with
        | false => rfl
        | true =>
          unfold leadB at y'
          rw [ho, Bool.true_and, decide_eq_false_iff_not, Nat.zero_or] at y'
          rw [if_pos rfl]
          rcases Int.lt_or_le (-1) (glads P.length S ok (fondP P) (2 ^ j) j) with w | w
          · exact absurd ((glads_none (fd := fondP P) hk _ _ j rfl).mp (by omega)) y'
          · omega
      rw [this, if_neg (by omega)] at nx
      rw [nI_1]; exact nx
    · have y2 := bI_n0.mp y
      unfold leadB at y2
      rw [Bool.and_eq_true, decide_eq_true_eq, Nat.zero_or] at y2
      rw [if_pos y2.1] at nx
      have hr2 : rch ok 0 (2 ^ j) := by have := rch_sn (rch_rf (ok := ok) (b := 0)) y2.1; rw [Nat.zero_or] at this; exact this
      have hS2 := subS_le (rch_sub hk subS_0 hr2)
      have hv := hJ (2 ^ j) (Nat.two_pow_pos j) hS2 hr2 y2.2 j hjl (by rw [Nat.testBit_two_pow]; simp)
      refine k_X1_greatestJoy_66 (t_bit (by omega)) (Or.inl rfl) (t_joyOf (d := d + 1) hZ (by omega) (by omega) hv) (Or.inl rfl) hZ.1 (k_X1_greatestJoy_80 ?_)
      have eif : (if sI (maxZ (fun p => if ok 0 p then glads P.length S ok (fondP P) (2 ^ p) p else -1) (if S = 0 then 0 else -1) j) < sI (glads P.length S ok (fondP P) (2 ^ j) j) then sI (glads P.length S ok (fondP P) (2 ^ j) j) else sI (maxZ (fun p => if ok 0 p then glads P.length S ok (fondP P) (2 ^ p) p else -1) (if S = 0 then 0 else -1) j)) = sI (if maxZ (fun p => if ok 0 p then glads P.length S ok (fondP P) (2 ^ p) p else -1) (if S = 0 then 0 else -1) j < glads P.length S ok (fondP P) (2 ^ j) j then glads P.length S ok (fondP P) (2 ^ j) j else maxZ (fun p => if ok 0 p then glads P.length S ok (fondP P) (2 ^ p) p else -1) (if S = 0 then 0 else -1) j) := by
        by_cases e : maxZ (fun p => if ok 0 p then glads P.length S ok (fondP P) (2 ^ p) p else -1) (if S = 0 then 0 else -1) j < glads P.length S ok (fondP P) (2 ^ j) j
        · rw [if_pos e, if_pos ((sI_lt (by omega) (by omega) (by omega) (by omega)).mpr e)]
        · rw [if_neg e, if_neg (fun w => e ((sI_lt (by omega) (by omega) (by omega) (by omega)).mp w))]
      rw [eif, nI_1]
      exact nx
theorem t_greatestJoy (hk : stepsOK P.length S ok) (sc : c ≠ z + 6) (sf : f ≠ z + 6) (hZ : LinT h z c) (hC : CrowdS h c f P) (hE : ExpS h z P.length S ok) : ∃ h1, JMt mX1_greatestJoy (some .int) (d + 3) [.ref z] h (some (.int (sI (gladT P S ok)))) h1 ∧ Upd (fun i => i = z + 6) h h1 := by
  have h8 := hk.1
  have h256 := pow_le8 h8
  have hSl := hk.2.1
  have h7 := hE.1
  obtain ⟨h1, i1, i2, i3⟩ := l_joys (d := d) (a1 := if S = 0 then (0 : Int32) else -1) hk sc sf S h (Nat.le_refl _) hZ hC hE (fun x h1 h2 => by omega)
  have fin := l_joyTop (d := d) hk (hZ.keep2 i2 (by omega) (by omega)) (hC.keep i2 sc sf) (hE.keep i2 (fun i y e => by unfold expZ at y; omega)) i3 _ 0 rfl (Nat.zero_le _)
  have e0 : sI (maxZ (fun p => if ok 0 p then glads P.length S ok (fondP P) (2 ^ p) p else -1) (if S = 0 then 0 else -1) 0) = if S = 0 then (0 : Int32) else -1 := by
    unfold maxZ
    split <;> decide
  rw [e0] at fin
  have go := i1 _ _ (k_X1_greatestJoy_44 fin)
  have tail : ∀ x : Int32, x = (if S = 0 then (0 : Int32) else -1) → J mX1_greatestJoy (d + 3) 12 [some (.ref z), none, none] [.int x] h (some (.int (sI (gladT P S ok)))) h1 := fun x hx => by
    rw [hx]
    refine k_X1_greatestJoy_12 hZ.1 ?_
    rw [h7]
    exact go
  refine ⟨h1, jm mi_X1_greatestJoy (Nat.le_of_ble_eq_true rfl) ⟨.int, rfl, rfl⟩ rfl (k_X1_greatestJoy_0 hZ.1 (fun y => k_X1_greatestJoy_11 (tail (-1) ?_)) (fun y => k_X1_greatestJoy_7 (tail 0 ?_))), i2⟩
  · rw [if_neg (fun e => y (by rw [h7, e]; rfl))]
  · rw [h7, z_nI, nI_eq (by omega) (by omega)] at y
    rw [if_pos y]
theorem l_highest {most w : Nat} (hm8 : most ≤ 8) (hw : w ≤ 9) (sc : ¬ inZ z c) (sf : ¬ inZ z f) : ∀ m s (h : PH), 2 ^ P.length - (s + 1) = m → s + 1 ≤ 2 ^ P.length → LinT h z c → CrowdS h c f P → MeasS h z P →
    ∃ h1, J mX1_highestSet (d + 3) 9 [some (.ref z), some (.int (nI most)), some (.int (nI w)), some (.int (nI (hiF P most w s))), some (.int (nI (s + 1)))] [] h (some (.int (nI (hiF P most w (2 ^ P.length - 1))))) h1 ∧ Upd (inZ z) h h1 ∧ LinT h1 z c ∧ MeasS h1 z P := by
  have ie : ∀ i, expZ z i → inZ z i := fun i y => by unfold expZ at y; unfold inZ; omega
  intro m
  induction m with
  | zero =>
    intro s h hm hs hZ hC hM
    have h8 := hC.2.2.2.2.1
    have h256 := pow_le8 h8
    have e : s = 2 ^ P.length - 1 := by omega
    subst e
    exact ⟨h, k_X1_highestSet_9 hZ.1 hZ.2.1 hC.1 (by rw [hC.2.2.2.1]; exact t_bit h8) (Or.inl rfl) (fun _ => k_X1_highestSet_71) (fun y => absurd (nI_le (by omega) (by omega)) y), Upd.rf, hZ, hM⟩
  | succ m ih =>
    intro s h hm hs hZ hC hM
    have h8 := hC.2.2.2.2.1
    have h256 := pow_le8 h8
    have hsl : s + 1 < 2 ^ P.length := by omega
    have hle := hiF_le (P := P) (most := most) (w := w) s
    have hp8 := popN_le (s + 1)
    have t1 := tallS_le hC.2.2.2.2.2.2 h8 (s + 1)
    have t2 := tallS_le hC.2.2.2.2.2.2 h8 (hiF P most w s)
    have ent : ∀ {o : Option Value} {h' : PH}, J mX1_highestSet (d + 3) 24 [some (.ref z), some (.int (nI most)), some (.int (nI w)), some (.int (nI (hiF P most w s))), some (.int (nI (s + 1)))] [] h o h' → J mX1_highestSet (d + 3) 9 [some (.ref z), some (.int (nI most)), some (.int (nI w)), some (.int (nI (hiF P most w s))), some (.int (nI (s + 1)))] [] h o h' := fun kk =>
      k_X1_highestSet_9 hZ.1 hZ.2.1 hC.1 (by rw [hC.2.2.2.1]; exact t_bit h8) (Or.inl rfl) (fun y => absurd y (nI_ge hsl (by omega))) (fun _ => kk)
    have stay : ¬ (popN (s + 1) ≤ most ∧ tallS P (hiF P most w s) < tallS P (s + 1) ∧ 0 < ways P.length (s + 1) (okS P w (s + 1)) 0) → hiF P most w (s + 1) = hiF P most w s := fun e => if_neg e
    by_cases g1 : popN (s + 1) ≤ most
    · by_cases g2 : tallS P (hiF P most w s) < tallS P (s + 1)
      · obtain ⟨h1, b1, b2, b3, b4⟩ := t_explore_N (d := d) (x2 := nI w) (okS_steps (w := w) h8 hsl) hZ hC (fun y => sc (ie _ y)) (fun y => sf (ie _ y)) (fun g b hU hZ' hC' h7 hb => t_whoStands hZ' hC' (hM.keep hU (fun y => by unfold expZ at y; omega) (fun y => by unfold expZ at y; omega)) h7 hsl hw (by omega))
        have hM1 := hM.keep b2 (fun y => by unfold expZ at y; omega) (fun y => by unfold expZ at y; omega)
        have hC1 := hC.keep b2 (fun y => sc (ie _ y)) (fun y => sf (ie _ y))
        have hwl := ways_lt (okS_steps (w := w) h8 hsl) 0
        obtain ⟨h2, i1, i2, i3, i4⟩ := ih (s + 1) h1 (by omega) (by omega) b3 hC1 hM1
        have mid : ∀ {o : Option Value} {h' : PH}, (nI (ways P.length (s + 1) (okS P w (s + 1)) 0) ≤ 0 → J mX1_highestSet (d + 3) 65 [some (.ref z), some (.int (nI most)), some (.int (nI w)), some (.int (nI (hiF P most w s))), some (.int (nI (s + 1)))] [] h1 o h') → (¬ nI (ways P.length (s + 1) (okS P w (s + 1)) 0) ≤ 0 → J mX1_highestSet (d + 3) 62 [some (.ref z), some (.int (nI most)), some (.int (nI w)), some (.int (nI (hiF P most w s))), some (.int (nI (s + 1)))] [] h1 o h') → J mX1_highestSet (d + 3) 9 [some (.ref z), some (.int (nI most)), some (.int (nI w)), some (.int (nI (hiF P most w s))), some (.int (nI (s + 1)))] [] h o h' := fun k1 k2 =>
          ent (k_X1_highestSet_24 (t_bitCount (by omega)) (Or.inl rfl) (fun y => absurd y (nI_nlt g1 (by omega))) (fun _ => k_X1_highestSet_33 (t_heightOf (d := d + 1) hZ hM h8 hsl) (Or.inl rfl) hZ.1 (t_heightOf (d := d + 1) hZ hM h8 (by omega)) (Or.inl rfl) hZ.1 (fun y => absurd y (nI_ge g2 (by omega))) (fun _ => k_X1_highestSet_47 b1 (Or.inl b2.1) hZ.1 (t_count (d := d + 1) b3 b4) (Or.inl rfl) b3.1 k1 k2)))
        refine ⟨h2, mid (fun y => ?_) (fun y => ?_), (b2.mono ie).tr i2, i3, i4⟩
        · rw [z_nI, nI_leI (by omega) (by omega)] at y
          have e := stay (fun q => by omega)
          rw [e] at i1
          refine k_X1_highestSet_65 ?_
          rw [nI_1]; exact i1
        · rw [z_nI, nI_leI (by omega) (by omega)] at y
          have e : hiF P most w (s + 1) = s + 1 := if_pos ⟨g1, g2, by omega⟩
          rw [e] at i1
          refine k_X1_highestSet_62 (k_X1_highestSet_65 ?_)
          rw [nI_1]; exact i1
      · obtain ⟨h2, i1, i2, i3, i4⟩ := ih (s + 1) h (by omega) (by omega) hZ hC hM
        rw [stay (fun q => g2 q.2.1)] at i1
        exact ⟨h2, ent (k_X1_highestSet_24 (t_bitCount (by omega)) (Or.inl rfl) (fun y => absurd y (nI_nlt g1 (by omega))) (fun _ => k_X1_highestSet_33 (t_heightOf (d := d + 1) hZ hM h8 hsl) (Or.inl rfl) hZ.1 (t_heightOf (d := d + 1) hZ hM h8 (by omega)) (Or.inl rfl) hZ.1 (fun _ => k_X1_highestSet_65 (by rw [nI_1]; exact i1)) (fun y => absurd (nI_le (by omega) (by omega)) y))), i2, i3, i4⟩
    · obtain ⟨h2, i1, i2, i3, i4⟩ := ih (s + 1) h (by omega) (by omega) hZ hC hM
      rw [stay (fun q => g1 q.1)] at i1
      exact ⟨h2, ent (k_X1_highestSet_24 (t_bitCount (by omega)) (Or.inl rfl) (fun _ => k_X1_highestSet_65 (by rw [nI_1]; exact i1)) (fun y => absurd (nI_lt (by omega) (by omega)) y)), i2, i3, i4⟩
theorem t_highestSet {most w : Nat} (hm8 : most ≤ 8) (hw : w ≤ 9) (sc : ¬ inZ z c) (sf : ¬ inZ z f) (hZ : LinT h z c) (hC : CrowdS h c f P) : ∃ h1, JMt mX1_highestSet (some .int) (d + 3) [.ref z, .int (nI most), .int (nI w)] h (some (.int (nI (hiF P most w (2 ^ P.length - 1))))) h1 ∧ Upd (inZ z) h h1 ∧ LinT h1 z c ∧ MeasS h1 z P := by
  have im : ∀ i, i = z + 1 ∨ i = z + 2 → inZ z i := fun i y => by unfold inZ; omega
  obtain ⟨g1, a1, a2, a3, a4⟩ := t_measureSets (d := d + 1) hZ hC (fun y => sc (im _ y)) (fun y => sf (im _ y))
  have hC1 := hC.keep a2 (fun y => sc (im _ y)) (fun y => sf (im _ y))
  have hp := Nat.two_pow_pos P.length
  obtain ⟨h1, j1, j2, j3, j4⟩ := l_highest (d := d) hm8 hw sc sf _ 0 g1 rfl hp a3 hC1 a4
  exact ⟨h1, jm mi_X1_highestSet (Nat.le_of_ble_eq_true rfl) ⟨.int, rfl, rfl⟩ rfl (k_X1_highestSet_0 a1 (Or.inl a2.1) hZ.1 j1), (a2.mono im).tr j2, j3, j4⟩
end HI
