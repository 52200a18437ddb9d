/-! what is read of explored lineups: leaders, the first order, feet, heads, joys, the highest set -/
def leadB (n S : Nat) (ok : Nat → Nat → Bool) (b p : Nat) : Bool := ok b p && decide (0 < ways n S ok (b ||| 2 ^ p))
def nxtF (n S : Nat) (ok : Nat → Nat → Bool) (b : Nat) : Nat := (firstFrom (fun p => leadB n S ok b p) n 0).getD 0
/-- the set below at each course of the first order -/
def grdF (n S : Nat) (ok : Nat → Nat → Bool) : Nat → Nat
  | 0 => 0
  | k + 1 => grdF n S ok k ||| 2 ^ nxtF n S ok (grdF n S ok k)
theorem sumN_cut {g : Nat → Nat} {n : Nat} : ∀ m, n ≤ m → (∀ i, n ≤ i → g i = 0) → sumN g m = sumN g n
  | 0, h, _ => by rw [show n = 0 by omega]
  | m + 1, h, h1 => by
    by_cases e : n = m + 1
    · rw [e]
    · rw [sumN, sumN_cut m (by omega) h1, h1 m (by omega), Nat.add_zero]
theorem cnt_pop {n S : Nat} (h8 : n ≤ 8) (hS : S < 2 ^ n) : cntR n S 0 = popN S := by
  unfold cntR popN
  rw [sumN_cut (g := fun i => if S.testBit i then 1 else 0) 8 h8 (fun i hi => by
    cases hc : S.testBit i with
    | false => rfl
    | true => have := bit_lt hS hc; omega)]
  exact sumN_cong n (fun i _ => by rw [Nat.zero_testBit]; simp)
section GR
variable {n S : Nat} {ok : Nat → Nat → Bool}
theorem lead_ex (hk : stepsOK n S ok) {b : Nat} (hw : 0 < ways n S ok b) (hb : b ≠ S) : ∃ p, firstFrom (fun p => leadB n S ok b p) n 0 = some p ∧ p < n ∧ ok b p = true ∧ 0 < ways n S ok (b ||| 2 ^ p) := by
  rw [ways_eq hk, if_neg hb, Nat.zero_add] at hw
  obtain ⟨p, hp, h⟩ := (sumN_pos n).mp hw
  cases hq : firstFrom (fun p => leadB n S ok b p) n 0 with
  | some q =>
    obtain ⟨a1, a2, a3, a4⟩ := firstFrom_lt _ _ _ hq
    unfold leadB at a3
    rw [Bool.and_eq_true, decide_eq_true_eq] at a3
    exact ⟨q, rfl, by omega, a3.1, a3.2⟩
  | none =>
    have := (firstFrom_none _ _).mp hq p (Nat.zero_le _) (by omega)
    unfold leadB at this
    by_cases e : ok b p = true
    · rw [if_pos e] at h
      rw [e, decide_eq_true h] at this
      cases this
    · rw [if_neg e] at h; omega
theorem grd_ok (hk : stepsOK n S ok) (hw : 0 < ways n S ok 0) : ∀ k, k ≤ popN S → rch ok 0 (grdF n S ok k) ∧ 0 < ways n S ok (grdF n S ok k) ∧ cntR n S (grdF n S ok k) + k = popN S := by
  intro k
  induction k with
  | zero => intro _; exact ⟨rch_rf, hw, by rw [Nat.add_zero]; exact cnt_pop hk.1 hk.2.1⟩
  | succ k ih =>
    intro hl
    obtain ⟨a1, a2, a3⟩ := ih (by omega)
    have hne : grdF n S ok k ≠ S := fun e => by
      rw [e] at a3
      have : cntR n S S = 0 := by
        have : cntR n S S ≤ 0 * n := sumN_le n (fun i _ => by cases S.testBit i <;> simp)
        omega
      omega
    obtain ⟨p, p1, p2, p3, p4⟩ := lead_ex hk a2 hne
    have e : nxtF n S ok (grdF n S ok k) = p := by unfold nxtF; rw [p1]; rfl
    have := cntR_or (n := n) p2 (hk.2.2 _ p p3).1 (hk.2.2 _ p p3).2
    unfold grdF
    rw [e]
    exact ⟨rch_sn a1 p3, p4, by omega⟩
theorem grd_next (hk : stepsOK n S ok) (hw : 0 < ways n S ok 0) {k : Nat} (hl : k < popN S) : firstFrom (fun p => leadB n S ok (grdF n S ok k) p) n 0 = some (nxtF n S ok (grdF n S ok k)) ∧ nxtF n S ok (grdF n S ok k) < n := by
  obtain ⟨a1, a2, a3⟩ := grd_ok hk hw k (by omega)
  have hne : grdF n S ok k ≠ S := fun e => by
    rw [e] at a3
    have : cntR n S S = 0 := by
      have : cntR n S S ≤ 0 * n := sumN_le n (fun i _ => by cases S.testBit i <;> simp)
      omega
    omega
  obtain ⟨p, p1, p2, p3, p4⟩ := lead_ex hk a2 hne
  have e : nxtF n S ok (grdF n S ok k) = p := by unfold nxtF; rw [p1]; rfl
  rw [e]
  exact ⟨p1, p2⟩
end GR
/-- how fond -/
def fondP (P : List Pers) (x y : Nat) : Nat := 10 - ((pg P x).2.1 - (pg P y).2.1 + ((pg P y).2.1 - (pg P x).2.1))
theorem fondP_le (P : List Pers) (x y : Nat) : fondP P x y ≤ 10 := Nat.sub_le _ _
def pos0 (m : Int) : Int := if m = -1 then 0 else m
/-- the greatest gladness of all orders; -1: none -/
def gladT (P : List Pers) (S : Nat) (ok : Nat → Nat → Bool) : Int := maxZ (fun p => if ok 0 p then glads P.length S ok (fondP P) (2 ^ p) p else -1) (if S = 0 then 0 else -1) P.length
/-- the first of the highest sets, of those up to m -/
def hiF (P : List Pers) (most w : Nat) : Nat → Nat
  | 0 => 0
  | m + 1 => if popN (m + 1) ≤ most ∧ tallS P (hiF P most w m) < tallS P (m + 1) ∧ 0 < ways P.length (m + 1) (okS P w (m + 1)) 0 then m + 1 else hiF P most w m
theorem hiF_le {P : List Pers} {most w : Nat} : ∀ m, hiF P most w m ≤ m
  | 0 => Nat.le_refl _
  | m + 1 => by
    have := hiF_le (P := P) (most := most) (w := w) m
    unfold hiF
    split <;> omega
section JY
variable {d : Nat} {h : PH} {z c f S : Nat} {P : List Pers} {ok : Nat → Nat → Bool}
theorem t_count (hZ : LinT h z c) (hE : ExpS h z P.length S ok) : JMt mX1_count (some .int) (d + 1) [.ref z] h (some (.int (nI (ways P.length S ok 0)))) h := by
  have e := (hE.2.1 0 (Nat.zero_le _) rch_rf).1
  have : JMt mX7_pick (some .int) d [.ref (z + 4), .int 0] h (some (.int (nI (ways P.length S ok 0)))) h := by rw [← e]; exact t_pick (k := 0) hZ.2.2.2.2.2.2.2.2.2.2.2.1 (by omega) (by omega)
  exact jm mi_X1_count (Nat.le_of_ble_eq_true rfl) ⟨.int, rfl, rfl⟩ rfl (k_X1_count_0 hZ.1 hZ.2.2.2.2.2.1 this (Or.inl rfl))
theorem t_heads (hZ : LinT h z c) (hE : ExpS h z P.length S ok) : JMt mX1_heads (some .int) (d + 1) [.ref z] h (some (.int (nI (lasts P.length S ok 0)))) h := by
  have e := (hE.2.1 0 (Nat.zero_le _) rch_rf).2.1
  have : JMt mX7_pick (some .int) d [.ref (z + 5), .int 0] h (some (.int (nI (lasts P.length S ok 0)))) h := by rw [← e]; exact t_pick (k := 0) hZ.2.2.2.2.2.2.2.2.2.2.2.2.1 (by omega) (by omega)
  exact jm mi_X1_heads (Nat.le_of_ble_eq_true rfl) ⟨.int, rfl, rfl⟩ rfl (k_X1_heads_0 hZ.1 hZ.2.2.2.2.2.2.1 this (Or.inl rfl))
theorem t_heightOf {s : Nat} (hZ : LinT h z c) (hM : MeasS h z P) (h8 : P.length ≤ 8) (hs : s < 2 ^ P.length) : JMt mX1_heightOf (some .int) (d + 1) [.ref z, .int (nI s)] h (some (.int (nI (tallS P s)))) h := by
  have h256 := pow_le8 h8
  have : JMt mX7_pick (some .int) d [.ref (z + 2), .int (nI s)] h (some (.int (nI (tallS P s)))) h := by rw [← (hM s hs).2]; exact t_pick hZ.2.2.2.2.2.2.2.2.2.1 (by omega) (by omega)
  exact jm mi_X1_heightOf (Nat.le_of_ble_eq_true rfl) ⟨.int, rfl, rfl⟩ rfl (k_X1_heightOf_0 hZ.1 hZ.2.2.2.1 this (Or.inl rfl))
theorem t_leadsOn {b p : Nat} (hk : stepsOK P.length S ok) (hZ : LinT h z c) (hE : ExpS h z P.length S ok) (hr : rch ok 0 b) (hp : p < P.length) : JMt mX1_leadsOn (some .boolean) (d + 1) [.ref z, .int (nI b), .int (nI p)] h (some (.int (bI (leadB P.length S ok b p)))) h := by
  have h8 := hk.1
  have h256 := pow_le8 h8
  have hSl := hk.2.1
  have hbS := subS_le (rch_sub hk subS_0 hr)
  have e3 := (hE.2.1 b hbS hr).2.2
  have p3 : JMt mX7_pick (some .int) d [.ref (z + 3), .int (nI b)] h (some (.int (nI (mkN (ok b) P.length)))) h := by rw [← e3]; exact t_pick hZ.2.2.2.2.2.2.2.2.2.2.1 (by omega) (by omega)
  have no : leadB P.length S ok b p = false → J mX1_leadsOn (d + 1) 36 [some (.ref z), some (.int (nI b)), some (.int (nI p))] [] h (some (.int (bI (leadB P.length S ok b p)))) h := fun e => by rw [e]; exact k_X1_leadsOn_36 k_X1_leadsOn_37
  refine jm mi_X1_leadsOn (Nat.le_of_ble_eq_true rfl) rB rfl (k_X1_leadsOn_0 hZ.1 hZ.2.2.2.2.1 p3 (Or.inl rfl) (t_bit (by omega)) (Or.inl rfl) (fun q => no ?_) (fun q => ?_))
  · rw [fa_bit (by omega)] at q
    unfold leadB
    cases ho : ok b p with
    | false => rfl
    | true => rw [mkN_bit.mpr ⟨hp, ho⟩] at q; cases q
  · rw [fa_bit (by omega), Bool.not_eq_false] at q
    have ho := (mkN_bit.mp q).2
    have hr2 := rch_sn hr ho
    have hS2 := subS_le (rch_sub hk subS_0 hr2)
    have e4 := (hE.2.1 _ hS2 hr2).1
    have p4 : JMt mX7_pick (some .int) d [.ref (z + 4), .int (nI b ||| nI (2 ^ p))] h (some (.int (nI (ways P.length S ok (b ||| 2 ^ p))))) h := by rw [fa_or, ← e4]; exact t_pick hZ.2.2.2.2.2.2.2.2.2.2.2.1 (by omega) (by omega)
    have hwl := ways_lt hk (b ||| 2 ^ p)
    refine k_X1_leadsOn_16 hZ.1 hZ.2.2.2.2.2.1 (t_bit (by omega)) (Or.inl rfl) p4 (Or.inl rfl) (fun y => no ?_) (fun y => ?_)
    · rw [z_nI, nI_leI (by omega) (by omega)] at y
      unfold leadB
      rw [show decide (0 < ways P.length S ok (b ||| 2 ^ p)) = false from decide_eq_false (by omega), Bool.and_false]
    · rw [z_nI, nI_leI (by omega) (by omega)] at y
      have : leadB P.length S ok b p = true := by
        unfold leadB
        rw [ho, show decide (0 < ways P.length S ok (b ||| 2 ^ p)) = true from decide_eq_true (by omega)]
        rfl
      rw [this]; exact k_X1_leadsOn_32 k_X1_leadsOn_37
theorem l_firstOn {b : Nat} (hk : stepsOK P.length S ok) (hZ : LinT h z c) (hC : CrowdS h c f P) (hE : ExpS h z P.length S ok) (hr : rch ok 0 b) : ∀ m j, P.length - j = m → j ≤ P.length → J mX1_firstOn (d + 2) 2 [some (.ref z), some (.int (nI b)), some (.int (nI j))] [] h (some (.int (oI (firstFrom (fun p => leadB P.length S ok b p) m j)))) h := by
  have h8 := hk.1
  intro m
  induction m with
  | zero =>
    intro j hm hj
    exact k_X1_firstOn_2 hZ.1 hZ.2.1 hC.1 (fun _ => k_X1_firstOn_30) (fun y => absurd (by rw [hC.2.2.2.1]; exact nI_le (by omega) (by omega)) y)
  | succ m ih =>
    intro j hm hj
    refine k_X1_firstOn_2 hZ.1 hZ.2.1 hC.1 (fun y => absurd y (by rw [hC.2.2.2.1]; exact nI_ge (by omega) (by omega))) (fun _ => k_X1_firstOn_13 (t_leadsOn hk hZ hE hr (by omega)) (Or.inl rfl) hZ.1 (fun y => k_X1_firstOn_24 ?_) (fun y => ?_))
    · rw [firstFrom, if_neg (by rw [bI_0.mp y]; decide), nI_1]
      exact ih (j + 1) (by omega) (by omega)
    · rw [firstFrom, if_pos (bI_n0.mp y)]
      exact k_X1_firstOn_22
theorem t_firstOn {b : Nat} (hk : stepsOK P.length S ok) (hZ : LinT h z c) (hC : CrowdS h c f P) (hE : ExpS h z P.length S ok) (hr : rch ok 0 b) : JMt mX1_firstOn (some .int) (d + 2) [.ref z, .int (nI b)] h (some (.int (oI (firstFrom (fun p => leadB P.length S ok b p) P.length 0)))) h :=
  jm mi_X1_firstOn (Nat.le_of_ble_eq_true rfl) ⟨.int, rfl, rfl⟩ rfl (k_X1_firstOn_0 (l_firstOn (d := d) hk hZ hC hE hr _ 0 rfl (Nat.zero_le _)))
theorem l_inFirst {i : Nat} (hk : stepsOK P.length S ok) (hZ : LinT h z c) (hC : CrowdS h c f P) (hE : ExpS h z P.length S ok) (hw : 0 < ways P.length S ok 0) (hi : i < popN S) : ∀ m k (v : Int32), i + 1 - k = m → k ≤ i + 1 → (k = i + 1 → v = nI (nxtF P.length S ok (grdF P.length S ok i))) → J mX1_inFirst (d + 3) 7 [some (.ref z), some (.int (nI i)), some (.int (nI (grdF P.length S ok k))), some (.int v), some (.int (nI k))] [] h (some (.int (nI (nxtF P.length S ok (grdF P.length S ok i))))) h := by
  have hp8 := popN_le S
  have h8 := hk.1
  intro m
  induction m with
  | zero =>
    intro k v hm hl hv
    have e : k = i + 1 := by omega
    rw [hv e, e]
    exact k_X1_inFirst_7 (fun _ => k_X1_inFirst_39) (fun y => absurd (nI_lt (by omega) (by omega)) y)
  | succ m ih =>
    intro k v hm hl hv
    obtain ⟨g1, g2⟩ := grd_next hk hw (k := k) (by omega)
    have hF := t_firstOn (d := d) hk hZ hC hE (grd_ok hk hw k (by omega)).1
    rw [g1] at hF
    refine k_X1_inFirst_7 (fun y => absurd y (nI_nlt (by omega) (by omega))) (fun _ => k_X1_inFirst_13 (fun y => absurd y (nI_ge (b := 8) (by omega) (by omega))) (fun _ => k_X1_inFirst_20 hF (Or.inl rfl) hZ.1 (t_bit (by omega)) (Or.inl rfl) ?_))
    rw [fa_or, nI_1]
    exact ih (k + 1) _ (by omega) (by omega) (fun e => by rw [show k = i by omega]; rfl)
theorem t_inFirst {i : Nat} (hk : stepsOK P.length S ok) (hZ : LinT h z c) (hC : CrowdS h c f P) (hE : ExpS h z P.length S ok) (hw : 0 < ways P.length S ok 0) (hi : i < popN S) : JMt mX1_inFirst (some .int) (d + 3) [.ref z, .int (nI i)] h (some (.int (nI (nxtF P.length S ok (grdF P.length S ok i))))) h :=
  jm mi_X1_inFirst (Nat.le_of_ble_eq_true rfl) ⟨.int, rfl, rfl⟩ rfl (k_X1_inFirst_0 (l_inFirst (d := d) hk hZ hC hE hw hi _ 0 (-1) rfl (Nat.zero_le _) (fun e => by omega)))
theorem l_feet (hk : stepsOK P.length S ok) (hZ : LinT h z c) (hC : CrowdS h c f P) (hE : ExpS h z P.length S ok) : ∀ m j, P.length - j = m → j ≤ P.length → J mX1_feet (d + 2) 4 [some (.ref z), some (.int (nI (mkN (leadB P.length S ok 0) j))), some (.int (nI j))] [] h (some (.int (nI (mkN (leadB P.length S ok 0) P.length)))) h := by
  have h8 := hk.1
  intro m
  induction m with
  | zero =>
    intro j hm hj
    have e : j = P.length := by omega
    subst e
    exact k_X1_feet_4 hZ.1 hZ.2.1 hC.1 (fun _ => k_X1_feet_37) (fun y => absurd (by rw [hC.2.2.2.1]; exact nI_le (by omega) (by omega)) y)
  | succ m ih =>
    intro j hm hj
    have nx := ih (j + 1) (by omega) (by omega)
    rw [mkN_succ] at nx
    refine k_X1_feet_4 hZ.1 hZ.2.1 hC.1 (fun y => absurd y (by rw [hC.2.2.2.1]; exact nI_ge (by omega) (by omega))) (fun _ => k_X1_feet_15 (by exact t_leadsOn (b := 0) (d := d) hk hZ hE rch_rf (by omega)) (Or.inl rfl) hZ.1 (fun y => k_X1_feet_31 ?_) (fun y => k_X1_feet_24 (t_bit (by omega)) (Or.inl rfl) (k_X1_feet_31 ?_)))
    · rw [bI_0.mp y, if_neg (by decide)] at nx
      rw [nI_1]; exact nx
    · rw [bI_n0.mp y, if_pos rfl] at nx
      rw [fa_or, nI_1]; exact nx
theorem t_feet (hk : stepsOK P.length S ok) (hZ : LinT h z c) (hC : CrowdS h c f P) (hE : ExpS h z P.length S ok) : JMt mX1_feet (some .int) (d + 2) [.ref z] h (some (.int (nI (mkN (leadB P.length S ok 0) P.length)))) h :=
  jm mi_X1_feet (Nat.le_of_ble_eq_true rfl) ⟨.int, rfl, rfl⟩ rfl (k_X1_feet_0 (l_feet (d := d) hk hZ hC hE _ 0 rfl (Nat.zero_le _)))
/-! joys -/
theorem t_joyOf {b p : Nat} {v : Int32} (hZ : LinT h z c) (hb : b < 256) (hp : p < 8) (hv : hI h (z + 6) (8 * b + p) = v) : JMt mX1_joyOf (some .int) (d + 1) [.ref z, .int (nI b), .int (nI p)] h (some (.int v)) h := by
  have : JMt mX7_pick (some .int) d [.ref (z + 6), .int (nI b * (8 : Int32) + nI p)] h (some (.int v)) h := by rw [ix8, ← hv]; exact t_pick hZ.2.2.2.2.2.2.2.2.2.2.2.2.2.1 (by omega) (by omega)
  exact jm mi_X1_joyOf (Nat.le_of_ble_eq_true rfl) ⟨.int, rfl, rfl⟩ rfl (k_X1_joyOf_0 hZ.1 hZ.2.2.2.2.2.2.2.1 this (Or.inl rfl))
theorem pos0_b {m : Int} (h : -1 ≤ m) : 0 ≤ pos0 m ∧ pos0 m ≤ if m < 0 then 0 else m := by
  unfold pos0
  split <;> split <;> omega
theorem l_joyIn {b l : Nat} (hk : stepsOK P.length S ok) (hZ : LinT h z c) (hC : CrowdS h c f P) (hE : ExpS h z P.length S ok) (hr : rch ok 0 b) (hl : l < P.length) (hbl : b.testBit l = true)
    (hj : ∀ p, leadB P.length S ok b p = true → hI h (z + 6) (8 * (b ||| 2 ^ p) + p) = sI (glads P.length S ok (fondP P) (b ||| 2 ^ p) p)) : ∀ m j, P.length - j = m → j ≤ P.length → ∀ o h',
    J mX1_fillJoys (d + 2) 84 [some (.ref z), some (.int (nI b)), some (.int (nI l)), some (.int (sI (pos0 (glads P.length S ok (fondP P) b l)))), some (.int (nI P.length))] [] h o h' →
    J mX1_fillJoys (d + 2) 18 [some (.ref z), some (.int (nI b)), some (.int (nI l)), some (.int (sI (pos0 (maxZ (fun p => if ok b p then (if glads P.length S ok (fondP P) (b ||| 2 ^ p) p = -1 then -1 else glads P.length S ok (fondP P) (b ||| 2 ^ p) p + (fondP P l p : Int)) else -1) (if b = S then 0 else -1) j)))), some (.int (nI j))] [] h o h' := by
  have h8 := hk.1
  have h256 := pow_le8 h8
  have hSl := hk.2.1
  have hbS := subS_le (rch_sub hk subS_0 hr)
  intro m
  induction m with
  | zero =>
    intro j hm hj2 o h' kk
    have e : j = P.length := by omega
    subst e
    rw [← glads_eq hk]
    exact k_X1_fillJoys_18 hZ.1 hZ.2.1 hC.1 (fun _ => kk) (fun y => absurd (by rw [hC.2.2.2.1]; exact nI_le (by omega) (by omega)) y)
  | succ m ih =>
    intro j hm hj2 o h' kk
    have hjl : j < P.length := by omega
    have nx := ih (j + 1) (by omega) (by omega) o h' kk
    rw [maxZ] at nx
    generalize hMd : maxZ (fun p => if ok b p then (if glads P.length S ok (fondP P) (b ||| 2 ^ p) p = -1 then -1 else glads P.length S ok (fondP P) (b ||| 2 ^ p) p + (fondP P l p : Int)) else -1) (if b = S then 0 else -1) j = Mj at nx ⊢
    have hMge : -1 ≤ Mj := by
      rw [← hMd]
      refine Int.le_trans ?_ (maxZ_ge j)
      split <;> omega
    have hMle : Mj ≤ 100 := by
      rw [← hMd]
      refine maxZ_le j (by split <;> omega) (fun p _ => ?_)
      have := (glads_b (n := P.length) (S := S) (ok := ok) (fondP_le P) (b ||| 2 ^ p) p).2
      have := fondP_le P l p
      split
      · split <;> omega
      · omega
    have gb := glads_b (n := P.length) (S := S) (ok := ok) (fondP_le P) (b ||| 2 ^ j) j
    have fb := fondP_le P l j
    refine k_X1_fillJoys_18 hZ.1 hZ.2.1 hC.1 (fun y => absurd y (by rw [hC.2.2.2.1]; exact nI_ge hjl (by omega))) (fun _ => k_X1_fillJoys_30 (fun y => absurd ((shr1_iff (by omega) (by omega)).mpr hbl) y) (fun _ => k_X1_fillJoys_39 (t_leadsOn (d := d) hk hZ hE hr hjl) (Or.inl rfl) hZ.1 (fun y => k_X1_fillJoys_78 ?_) (fun y => ?_)))
    · have y' := bI_0.mp y
      have : (if ok b j then (if glads P.length S ok (fondP P) (b ||| 2 ^ j) j = -1 then -1 else glads P.length S ok (fondP P) (b ||| 2 ^ j) j + (fondP P l j : Int)) else -1) = -1 := by
        cases ho : ok b j with
        | false => rfl
        | true =>
          unfold leadB at y'
          rw [ho, Bool.true_and, decide_eq_false_iff_not] at y'
          have : glads P.length S ok (fondP P) (b ||| 2 ^ j) j = -1 := by
            rcases Int.lt_or_le (-1) (glads P.length S ok (fondP P) (b ||| 2 ^ j) j) with w | w
            · exact absurd ((glads_none (fd := fondP P) hk _ _ j rfl).mp (by omega)) y'
            · omega
          rw [if_pos rfl, if_pos this]
      rw [this, if_neg (by omega)] at nx
      rw [nI_1]; exact nx
    · have y' := bI_n0.mp y
      have y2 := y'
      unfold leadB at y2
      rw [Bool.and_eq_true, decide_eq_true_eq] at y2
      have hg := (glads_none (fd := fondP P) hk _ _ j rfl).mpr y2.2
      rw [if_pos y2.1, if_neg hg] at nx
      have hol := or_lt8 (b := b) (p := j) (by omega) (by omega)
      have hjo : JMt mX1_joyOf (some .int) (d + 1) [.ref z, .int (nI b ||| nI (2 ^ j)), .int (nI j)] h (some (.int (sI (glads P.length S ok (fondP P) (b ||| 2 ^ j) j)))) h := by rw [fa_or]; exact t_joyOf (d := d) hZ hol (by omega) (hj j y')
      refine k_X1_fillJoys_49 (t_bit (by omega)) (Or.inl rfl) hjo (Or.inl rfl) hZ.1 hZ.1 hZ.2.1 (t_fondness (d := d) hC hl hjl) (Or.inl rfl) hC.1 (k_X1_fillJoys_78 ?_)
      have eadd : sI (glads P.length S ok (fondP P) (b ||| 2 ^ j) j) + nI (10 - ((pg P l).2.1 - (pg P j).2.1 + ((pg P j).2.1 - (pg P l).2.1))) = sI (glads P.length S ok (fondP P) (b ||| 2 ^ j) j + (fondP P l j : Int)) := by rw [nI_sI, sI_add]; rfl
      have eif : (if sI (pos0 Mj) < sI (glads P.length S ok (fondP P) (b ||| 2 ^ j) j + (fondP P l j : Int)) then sI (glads P.length S ok (fondP P) (b ||| 2 ^ j) j + (fondP P l j : Int)) else sI (pos0 Mj)) = sI (pos0 (if Mj < glads P.length S ok (fondP P) (b ||| 2 ^ j) j + (fondP P l j : Int) then glads P.length S ok (fondP P) (b ||| 2 ^ j) j + (fondP P l j : Int) else Mj)) := by
        have g0 : 0 ≤ glads P.length S ok (fondP P) (b ||| 2 ^ j) j := by omega
        generalize hG : glads P.length S ok (fondP P) (b ||| 2 ^ j) j + (fondP P l j : Int) = G at *
        have hG0 : 0 ≤ G := by omega
        have hG1 : G ≤ 100 := by omega
        have pb : pos0 Mj = if Mj = -1 then 0 else Mj := rfl
        by_cases e1 : Mj = -1
        · rw [e1, show pos0 (-1) = 0 from rfl, if_pos (by omega : (-1 : Int) < G)]
          have pg' : pos0 G = G := by unfold pos0; rw [if_neg (by omega)]
          rw [pg']
          by_cases e2 : sI 0 < sI G
          · rw [if_pos e2]
          · rw [if_neg e2]
            rw [sI_lt (by omega) (by omega) (by omega) (by omega)] at e2
            congr 1; omega
        · have p1 : pos0 Mj = Mj := by unfold pos0; rw [if_neg e1]
          rw [p1]
          by_cases e2 : Mj < G
          · have pg' : pos0 G = G := by unfold pos0; rw [if_neg (by omega)]
            rw [if_pos e2, if_pos ((sI_lt (by omega) (by omega) (by omega) (by omega)).mpr e2), pg']
          · rw [if_neg e2, if_neg (fun w => e2 ((sI_lt (by omega) (by omega) (by omega) (by omega)).mp w)), p1]
      rw [eadd, eif, nI_1]
      exact nx
theorem l_fill {b : Nat} (hk : stepsOK P.length S ok) (hr : rch ok 0 b) (hb : b < 256) (hw : 0 < ways P.length S ok b) (sc : c ≠ z + 6) (sf : f ≠ z + 6) : ∀ m l (h : PH), P.length - l = m → l ≤ P.length → LinT h z c → CrowdS h c f P → ExpS h z P.length S ok →
    (∀ p, leadB P.length S ok b p = true → hI h (z + 6) (8 * (b ||| 2 ^ p) + p) = sI (glads P.length S ok (fondP P) (b ||| 2 ^ p) p)) →
    ∃ h1, J mX1_fillJoys (d + 2) 2 [some (.ref z), some (.int (nI b)), some (.int (nI l)), none, none] [] h none h1 ∧ Upd (fun i => i = z + 6) h h1 ∧ (∀ i, l ≤ i → i < P.length → b.testBit i = true → hI h1 (z + 6) (8 * b + i) = sI (glads P.length S ok (fondP P) b i)) ∧ ∀ x, (∀ i, l ≤ i → i < P.length → x ≠ 8 * b + i) → hI h1 (z + 6) x = hI h (z + 6) x := by
  have h8 := hk.1
  have h256 := pow_le8 h8
  intro m
  induction m with
  | zero =>
    intro l h hm hl hZ hC hE hj
    exact ⟨h, k_X1_fillJoys_2 hZ.1 hZ.2.1 hC.1 (fun _ => k_X1_fillJoys_104) (fun y => absurd (by rw [hC.2.2.2.1]; exact nI_le (by omega) (by omega)) y), Upd.rf, fun i h1 h2 => by omega, fun _ _ => rfl⟩
  | succ m ih =>
    intro l h hm hl hZ hC hE hj
    have hll : l < P.length := by omega
    -- what is laid
    have go : ∀ v : Int32, (b.testBit l = true → v = sI (glads P.length S ok (fondP P) b l)) → ∃ h1, (∀ (x4 : Int32), J mX1_fillJoys (d + 2) 84 [some (.ref z), some (.int (nI b)), some (.int (nI l)), some (.int v), some (.int x4)] [] h none h1) ∧ Upd (fun i => i = z + 6) h h1 ∧ (∀ i, l ≤ i → i < P.length → b.testBit i = true → hI h1 (z + 6) (8 * b + i) = sI (glads P.length S ok (fondP P) b i)) ∧ ∀ x, (∀ i, l ≤ i → i < P.length → x ≠ 8 * b + i) → hI h1 (z + 6) x = hI h (z + 6) x := by
      intro v hv
      have hU : Upd (fun i => i = z + 6) h (setI h (z + 6) (8 * b + l) v) := Upd.set rfl
      have hp : JMt mX7_put none (d + 1) [.ref (z + 6), .int (nI b * (8 : Int32) + nI l), .int v] h none (setI h (z + 6) (8 * b + l) v) := by rw [ix8]; exact t_put hZ.2.2.2.2.2.2.2.2.2.2.2.2.2.1 (by omega) (by omega)
      obtain ⟨h1, j1, j2, j3, j4⟩ := ih (l + 1) _ (by omega) (by omega) (hZ.keep2 hU (by omega) (by omega)) (hC.keep hU sc sf) (hE.keep hU (fun i y e => by unfold expZ at y; omega)) (fun p hp' => by
        have hlt := lt_or (hk.2.2 b p (by unfold leadB at hp'; rw [Bool.and_eq_true] at hp'; exact hp'.1)).2
        rw [hI_setI, if_neg (fun y => by have := y.2; omega)]
        exact hj p hp')
      refine ⟨h1, fun x4 => k_X1_fillJoys_84 hZ.1 hZ.2.2.2.2.2.2.2.1 hp (Or.inl rfl) (by rw [nI_1]; exact j1), hU.tr j2, fun i h1' h2' hb' => ?_, fun x hx => ?_⟩
      · by_cases e : i = l
        · subst e
          rw [j4 _ (fun i' h3 h4 => by omega), hI_setI, if_pos ⟨rfl, rfl⟩]
          exact hv hb'
        · exact j3 i (by omega) h2' hb'
      · rw [j4 x (fun i h3 h4 => hx i (by omega) h4), hI_setI, if_neg (fun y => hx l (Nat.le_refl _) hll y.2)]
    cases hbl : b.testBit l with
    | true =>
      have hgn := (glads_none (fd := fondP P) hk _ b l rfl).mpr hw
      have hpos : pos0 (glads P.length S ok (fondP P) b l) = glads P.length S ok (fondP P) b l := if_neg hgn
      obtain ⟨h1, g1, g2⟩ := go (sI (pos0 (glads P.length S ok (fondP P) b l))) (fun _ => by rw [hpos])
      refine ⟨h1, k_X1_fillJoys_2 hZ.1 hZ.2.1 hC.1 (fun y => absurd y (by rw [hC.2.2.2.1]; exact nI_ge hll (by omega))) (fun _ => k_X1_fillJoys_13 ?_), g2⟩
      have := l_joyIn (d := d) hk hZ hC hE hr hll hbl hj _ 0 rfl (Nat.zero_le _) none h1 (g1 _)
      have e0 : pos0 (maxZ (fun p => if ok b p then (if glads P.length S ok (fondP P) (b ||| 2 ^ p) p = -1 then -1 else glads P.length S ok (fondP P) (b ||| 2 ^ p) p + (fondP P l p : Int)) else -1) (if b = S then 0 else -1) 0) = 0 := by
        unfold maxZ pos0
        split <;> split <;> omega
      rw [e0] at this
      exact this
    | false =>
      obtain ⟨h1, g1, g2⟩ := go 0 (fun y => by rw [hbl] at y; cases y)
      refine ⟨h1, k_X1_fillJoys_2 hZ.1 hZ.2.1 hC.1 (fun y => absurd y (by rw [hC.2.2.2.1]; exact nI_ge hll (by omega))) (fun _ => k_X1_fillJoys_13 (k_X1_fillJoys_18 hZ.1 hZ.2.1 hC.1 (fun _ => g1 0) (fun _ => k_X1_fillJoys_30 (fun _ => g1 0) (fun y => absurd ((shr1_iff hb (by omega)).mp y) (by rw [hbl]; decide))))), g2⟩
theorem t_fillJoys {b : Nat} (hk : stepsOK P.length S ok) (hr : rch ok 0 b) (hb : b < 256) (hw : 0 < ways P.length S ok b) (sc : c ≠ z + 6) (sf : f ≠ z + 6) (hZ : LinT h z c) (hC : CrowdS h c f P) (hE : ExpS h z P.length S ok)
    (hj : ∀ p, leadB P.length S ok b p = true → hI h (z + 6) (8 * (b ||| 2 ^ p) + p) = sI (glads P.length S ok (fondP P) (b ||| 2 ^ p) p)) :
    ∃ h1, JMt mX1_fillJoys none (d + 2) [.ref z, .int (nI b)] h none h1 ∧ Upd (fun i => i = z + 6) h h1 ∧ (∀ i, i < P.length → b.testBit i = true → hI h1 (z + 6) (8 * b + i) = sI (glads P.length S ok (fondP P) b i)) ∧ ∀ x, (∀ i, i < P.length → x ≠ 8 * b + i) → hI h1 (z + 6) x = hI h (z + 6) x := by
  obtain ⟨h1, j1, j2, j3, j4⟩ := l_fill (d := d) hk hr hb hw sc sf _ 0 h rfl (Nat.zero_le _) hZ hC hE hj
  exact ⟨h1, jm mi_X1_fillJoys (Nat.le_of_ble_eq_true rfl) rfl rfl (k_X1_fillJoys_0 j1), j2, fun i hi => j3 i (Nat.zero_le _) hi, fun x hx => j4 x (fun i _ hi => hx i hi)⟩
end JY
