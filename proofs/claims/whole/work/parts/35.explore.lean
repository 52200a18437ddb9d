/-! explore: who can be below, in how many orders they go on, who is last of them -/
def expZ (z : Nat) : Nat → Prop := fun i => i = z ∨ i = z + 3 ∨ i = z + 4 ∨ i = z + 5
/-- marked as one that is reached from those below b -/
def mkd (ok : Nat → Nat → Bool) (b c : Nat) : Prop := c = 0 ∨ ∃ e p, e < b ∧ rch ok 0 e ∧ ok e p = true ∧ c = e ||| 2 ^ p
theorem mkd_ge {n S : Nat} {ok : Nat → Nat → Bool} (hk : stepsOK n S ok) {b c : Nat} (h : c ≤ b) : mkd ok b c ↔ rch ok 0 c := by
  constructor
  · rintro (e | ⟨e, p, h1, h2, h3, h4⟩)
    · rw [e]; exact rch_rf
    · rw [h4]; exact rch_sn h2 h3
  · intro hr
    rcases rch_tl hr with e | ⟨p, e, h2, h3, h4⟩
    · exact Or.inl e
    · have := lt_or (hk.2.2 e p h3).2
      exact Or.inr ⟨e, p, by omega, h2, h3, h4⟩
def ExpS (h : PH) (z n S : Nat) (ok : Nat → Nat → Bool) : Prop := hI h z 7 = nI S ∧ (∀ c, c ≤ S → rch ok 0 c → hI h (z + 4) c = nI (ways n S ok c) ∧ hI h (z + 5) c = nI (lasts n S ok c) ∧ hI h (z + 3) c = nI (mkN (ok c) n)) ∧ ∀ c, c ≤ S → ¬ rch ok 0 c → hI h (z + 4) c = 0
theorem ExpS.keep {S' : Nat → Prop} {h h1 : PH} {z n S : Nat} {ok : Nat → Nat → Bool} (hE : ExpS h z n S ok) (a : Upd S' h h1) (hs : ∀ i, expZ z i → ¬ S' i) : ExpS h1 z n S ok := by
  obtain ⟨e1, e2, e3⟩ := hE
  have q0 := a.2.2.2.2.2 z (hs z (Or.inl rfl))
  have q3 := a.2.2.2.2.2 (z + 3) (hs _ (Or.inr (Or.inl rfl)))
  have q4 := a.2.2.2.2.2 (z + 4) (hs _ (Or.inr (Or.inr (Or.inl rfl))))
  have q5 := a.2.2.2.2.2 (z + 5) (hs _ (Or.inr (Or.inr (Or.inr rfl))))
  refine ⟨by rw [q0]; exact e1, fun c hc hr => ?_, fun c hc hr => ?_⟩
  · rw [q3, q4, q5]; exact e2 c hc hr
  · rw [q4]; exact e3 c hc hr
section EX
variable {d : Nat} {h : PH} {z c f : Nat} {P : List Pers}
theorem l_whoBears {m r S b : Nat} {v : Nat → Int64} {x1 : Int32} (hZ : LinT h z c) (hC : CrowdS h c f P) (hS : S < 2 ^ P.length) (hb : b < 2 ^ P.length) : ∀ k j, P.length - j = k → j ≤ P.length → J mX1_whoBears (d + 1) 35 [some (.ref z), some (.int x1), some (.ref r), some (.int (nI (difN S b))), some (.long (cellI m v (nI (popN b)))), none, some (.int (nI (massS P (difN S b)))), some (.int (nI (mkN (okB P m v S b) j))), some (.int (nI j))] [] h (some (.int (nI (mkN (okB P m v S b) P.length)))) h := by
  have h8 := hC.2.2.2.2.1
  have h256 := pow_le8 h8
  have c4 := hC.2.2.2.1
  have ok := hC.2.2.2.2.2.2
  have hd := dif_lt (S := S) (b := b) (by omega)
  intro k
  induction k with
  | zero =>
    intro j hm hj
    have e : j = P.length := by omega
    subst e
    exact k_X1_whoBears_35 hZ.1 hZ.2.1 hC.1 (fun _ => k_X1_whoBears_92) (fun y => absurd (by rw [c4]; exact nI_le (Nat.le_refl _) (by omega)) y)
  | succ k ih =>
    intro j hm hj
    have hjl : j < P.length := by omega
    have nx := ih (j + 1) (by omega) (by omega)
    rw [mkN_succ] at nx
    have no : okB P m v S b j = false → J mX1_whoBears (d + 1) 86 [some (.ref z), some (.int x1), some (.ref r), some (.int (nI (difN S b))), some (.long (cellI m v (nI (popN b)))), none, some (.int (nI (massS P (difN S b)))), some (.int (nI (mkN (okB P m v S b) j))), some (.int (nI j))] [] h (some (.int (nI (mkN (okB P m v S b) P.length)))) h := fun e => by
      rw [e, if_neg (by decide)] at nx
      refine k_X1_whoBears_86 ?_
      rw [nI_1]; exact nx
    refine k_X1_whoBears_35 hZ.1 hZ.2.1 hC.1 (fun y => absurd y (by rw [c4]; exact nI_ge hjl (by omega))) (fun _ => k_X1_whoBears_47 (fun y => no ?_) (fun y => ?_))
    · rw [shr1_iff hd (by omega), dif_bit (by omega)] at y
      unfold okB
      cases hx : (S.testBit j && !b.testBit j) with
      | true => exact absurd hx y
      | false => rw [Bool.and_false, Bool.false_and]
    · rw [shr1_iff hd (by omega), dif_bit (by omega)] at y
      have y' := y
      rw [Bool.and_eq_true] at y'
      have mi := massP_in (P := P) (by omega) hjl y'.1 (by simpa using y'.2)
      have e5 : nI (massS P (difN S b)) - nI (factP (pg P j) 5) = nI (massS P (difN S b) - massP (pg P j)) := pk_sub mi
      refine k_X1_whoBears_57 hZ.1 hZ.2.1 (t_fact (w := 5) hC hjl (by omega)) (Or.inl rfl) hC.1 (fun y2 => no ?_) (fun y2 => k_X1_whoBears_77 (k_X1_whoBears_86 ?_))
      · rw [e5, lg_cmp_eq] at y2
        unfold okB
        rw [decide_eq_false y2, Bool.and_false]
      · rw [e5, lg_cmp_eq] at y2
        have : okB P m v S b j = true := by
          unfold okB
          rw [y, show decide (j < P.length) = true from decide_eq_true hjl, decide_eq_true y2]
          rfl
        rw [this, if_pos rfl] at nx
        rw [shl_bit j (by omega), fa_or, nI_1]
        exact nx
theorem t_whoBears {m r cc sort S b : Nat} {v : Nat → Int64} (hZ : LinT h z c) (hC : CrowdS h c f P) (hM : MeasS h z P) (hR : RowS h r cc sort m v) (h7 : hI h z 7 = nI S) (hS : S < 2 ^ P.length) (hb : b < 2 ^ P.length) : JMt mX1_whoBears (some .int) (d + 1) [.ref z, .int (nI b), .ref r] h (some (.int (nI (mkN (okB P m v S b) P.length)))) h := by
  have h8 := hC.2.2.2.2.1
  have h256 := pow_le8 h8
  have hdl : difN S b < 2 ^ P.length := Nat.lt_of_le_of_lt Nat.and_le_left hS
  have p2 : JMt mX7_pick (some .int) d [.ref (z + 1), .int (hI h z 7 &&& (nI b ^^^ (-1 : Int32)))] h (some (.int (nI (massS P (difN S b))))) h := by
    rw [h7, dif_I (by omega) (by omega), ← (hM _ hdl).1]; exact t_pick hZ.2.2.2.2.2.2.2.2.1 (by omega) (by omega)
  refine jm mi_X1_whoBears (Nat.le_of_ble_eq_true rfl) ⟨.int, rfl, rfl⟩ rfl (k_X1_whoBears_0 hZ.1 (t_bitCount (by omega)) (Or.inl rfl) (t_cell hR) (Or.inl rfl) hR.1 hZ.1 hZ.2.2.1 p2 (Or.inl rfl) ?_)
  rw [h7, dif_I (by omega) (by omega)]
  exact l_whoBears (d := d) hZ hC hS hb _ 0 rfl (Nat.zero_le _)
theorem mkN_lt8 {n : Nat} {g : Nat → Bool} (h8 : n ≤ 8) : mkN g n < 256 := Nat.lt_of_lt_of_le mkN_lt (pow_le8 h8)
theorem l_reach {b : Nat} {g : Nat → Bool} (hb : b < 256) (sc : c ≠ z + 4) (sf : f ≠ z + 4) : ∀ m j (h : PH), P.length - j = m → j ≤ P.length → LinT h z c → CrowdS h c f P →
    ∃ h1, J mX1_reachFrom (d + 1) 11 [some (.ref z), some (.int (nI b)), some (.int (nI (mkN g P.length))), some (.int (nI j))] [] h none h1 ∧ Upd (fun i => i = z + 4) h h1 ∧ (∀ x, (∃ p, j ≤ p ∧ p < P.length ∧ g p = true ∧ x = b ||| 2 ^ p) → hI h1 (z + 4) x = 1) ∧ ∀ x, ¬ (∃ p, j ≤ p ∧ p < P.length ∧ g p = true ∧ x = b ||| 2 ^ p) → hI h1 (z + 4) x = hI h (z + 4) x := by
  intro m
  induction m with
  | zero =>
    intro j h hm hj hZ hC
    have h8 := hC.2.2.2.2.1
    refine ⟨h, k_X1_reachFrom_11 hZ.1 hZ.2.1 hC.1 (fun _ => k_X1_reachFrom_50) (fun y => absurd (by rw [hC.2.2.2.1]; exact nI_le (by omega) (by omega)) y), Upd.rf, fun x ⟨p, h1, h2, _⟩ => by omega, fun _ _ => rfl⟩
  | succ m ih =>
    intro j h hm hj hZ hC
    have h8 := hC.2.2.2.2.1
    have hjl : j < P.length := by omega
    have hF := mkN_lt8 (g := g) h8
    by_cases e : g j = true
    · have hU : Upd (fun i => i = z + 4) h (setI h (z + 4) (b ||| 2 ^ j) 1) := Upd.set rfl
      have hZ2 := hZ.keep2 hU (by omega) (by omega)
      have hC2 := hC.keep hU (fun y => sc y) (fun y => sf y)
      have hp : JMt mX7_put none d [.ref (z + 4), .int (nI b ||| (1 : Int32) <<< (nI j &&& 31)), .int 1] h none (setI h (z + 4) (b ||| 2 ^ j) 1) := by
        rw [shl_bit j (by omega), fa_or]
        exact t_put hZ.2.2.2.2.2.2.2.2.2.2.2.1 (by omega) (or_lt8 hb (by omega))
      obtain ⟨h1, j1, j2, j3, j4⟩ := ih (j + 1) _ (by omega) (by omega) hZ2 hC2
      refine ⟨h1, k_X1_reachFrom_11 hZ.1 hZ.2.1 hC.1 (fun y => absurd y (by rw [hC.2.2.2.1]; exact nI_ge hjl (by omega))) (fun _ => k_X1_reachFrom_22 (fun y => absurd ((shr1_iff hF (by omega)).mpr (mkN_bit.mpr ⟨hjl, e⟩)) y) (fun _ => k_X1_reachFrom_31 hZ.1 hZ.2.2.2.2.2.1 hp (Or.inl rfl) (k_X1_reachFrom_44 (by rw [nI_1]; exact j1)))), hU.tr j2, fun x hx => ?_, fun x hx => ?_⟩
      · obtain ⟨p, q1, q2, q3, q4⟩ := hx
        by_cases y : ∃ p, j + 1 ≤ p ∧ p < P.length ∧ g p = true ∧ x = b ||| 2 ^ p
        · exact j3 x y
        · rw [j4 x y, hI_setI]
          by_cases ep : p = j
          · rw [if_pos ⟨rfl, by rw [q4, ep]⟩]
          · exact absurd ⟨p, by omega, q2, q3, q4⟩ y
      · rw [j4 x (fun ⟨p, q1, q2⟩ => hx ⟨p, by omega, q2⟩), hI_setI, if_neg (fun y => hx ⟨j, Nat.le_refl _, hjl, e, y.2⟩)]
    · obtain ⟨h1, j1, j2, j3, j4⟩ := ih (j + 1) h (by omega) (by omega) hZ hC
      refine ⟨h1, k_X1_reachFrom_11 hZ.1 hZ.2.1 hC.1 (fun y => absurd y (by rw [hC.2.2.2.1]; exact nI_ge hjl (by omega))) (fun _ => k_X1_reachFrom_22 (fun _ => k_X1_reachFrom_44 (by rw [nI_1]; exact j1)) (fun y => absurd (mkN_bit.mp ((shr1_iff hF (by omega)).mp y)).2 e)), j2, fun x hx => ?_, fun x hx => ?_⟩
      · obtain ⟨p, q1, q2, q3, q4⟩ := hx
        exact j3 x ⟨p, by have : p ≠ j := (fun y => e (by rw [← y]; exact q3)); omega, q2, q3, q4⟩
      · exact j4 x (fun ⟨p, q1, q2⟩ => hx ⟨p, by omega, q2⟩)
theorem t_reach {b : Nat} {g : Nat → Bool} (hb : b < 256) (sc : c ≠ z + 4) (sf : f ≠ z + 4) (hZ : LinT h z c) (hC : CrowdS h c f P) (hf : hI h (z + 3) b = nI (mkN g P.length)) :
    ∃ h1, JMt mX1_reachFrom none (d + 1) [.ref z, .int (nI b)] h none h1 ∧ Upd (fun i => i = z + 4) h h1 ∧ (∀ x, (∃ p, p < P.length ∧ g p = true ∧ x = b ||| 2 ^ p) → hI h1 (z + 4) x = 1) ∧ ∀ x, ¬ (∃ p, p < P.length ∧ g p = true ∧ x = b ||| 2 ^ p) → hI h1 (z + 4) x = hI h (z + 4) x := by
  obtain ⟨h1, j1, j2, j3, j4⟩ := l_reach (d := d) (g := g) hb sc sf _ 0 h rfl (Nat.zero_le _) hZ hC
  have hp : JMt mX7_pick (some .int) d [.ref (z + 3), .int (nI b)] h (some (.int (nI (mkN g P.length)))) h := by
    rw [← hf]; exact t_pick hZ.2.2.2.2.2.2.2.2.2.2.1 (by omega) hb
  exact ⟨h1, jm mi_X1_reachFrom (Nat.le_of_ble_eq_true rfl) rfl rfl (k_X1_reachFrom_0 hZ.1 hZ.2.2.2.2.1 hp (Or.inl rfl) j1), j2, fun x ⟨p, y⟩ => j3 x ⟨p, Nat.zero_le _, y⟩, fun x y => j4 x (fun ⟨p, _, q⟩ => y ⟨p, q⟩)⟩
theorem l_count {S b : Nat} {ok : Nat → Nat → Bool} (hk : stepsOK P.length S ok) (hb : b < 256) (hZ : LinT h z c) (hC : CrowdS h c f P) (h7 : hI h z 7 = nI S)
    (hw : ∀ p, ok b p = true → hI h (z + 4) (b ||| 2 ^ p) = nI (ways P.length S ok (b ||| 2 ^ p)) ∧ hI h (z + 5) (b ||| 2 ^ p) = nI (lasts P.length S ok (b ||| 2 ^ p))) : ∀ m j x y, P.length - j = m → j ≤ P.length →
    x = (if b = S then 1 else 0) + sumN (fun p => if ok b p then ways P.length S ok (b ||| 2 ^ p) else 0) j → y = orN (fun p => if ok b p then (if b ||| 2 ^ p = S then 2 ^ p else lasts P.length S ok (b ||| 2 ^ p)) else 0) j →
    J mX1_countFrom (d + 1) 29 [some (.ref z), some (.int (nI b)), some (.int (nI (mkN (ok b) P.length))), some (.int (nI x)), some (.int (nI y)), some (.int (nI j)), none] [] h none (setI (setI h (z + 4) b (nI (ways P.length S ok b))) (z + 5) b (nI (lasts P.length S ok b))) := by
  have h8 := hC.2.2.2.2.1
  have h256 := pow_le8 h8
  have hF := mkN_lt8 (g := ok b) h8
  have hSl := hk.2.1
  intro m
  induction m with
  | zero =>
    intro j x y hm hj hx hy
    have e : j = P.length := by omega
    subst e
    rw [← ways_eq hk] at hx
    rw [← lasts_eq hk] at hy
    subst hx hy
    refine k_X1_countFrom_29 hZ.1 hZ.2.1 hC.1 (fun _ => k_X1_countFrom_107 (h5 := setI h (z + 4) b (nI (ways P.length S ok b))) hZ.1 hZ.2.2.2.2.2.1 (t_put hZ.2.2.2.2.2.2.2.2.2.2.2.1 (by omega) hb) (Or.inl rfl) hZ.1 hZ.2.2.2.2.2.2.1 (t_put (h := setI h (z + 4) b (nI (ways P.length S ok b))) hZ.2.2.2.2.2.2.2.2.2.2.2.2.1 (by omega) hb) (Or.inl rfl)) (fun y => absurd (by rw [hC.2.2.2.1]; exact nI_le (by omega) (by omega)) y)
  | succ m ih =>
    intro j x y hm hj hx hy
    have hjl : j < P.length := by omega
    by_cases e : ok b j = true
    · obtain ⟨a1, a2⟩ := hw j e
      have hol := or_lt8 (p := j) hb (by omega)
      have hp : JMt mX7_pick (some .int) d [.ref (z + 4), .int (nI b ||| (1 : Int32) <<< (nI j &&& 31))] h (some (.int (nI (ways P.length S ok (b ||| 2 ^ j))))) h := by
        rw [shl_bit j (by omega), fa_or, ← a1]; exact t_pick hZ.2.2.2.2.2.2.2.2.2.2.2.1 (by omega) hol
      refine k_X1_countFrom_29 hZ.1 hZ.2.1 hC.1 (fun y => absurd y (by rw [hC.2.2.2.1]; exact nI_ge hjl (by omega))) (fun _ => k_X1_countFrom_41 (fun y => absurd ((shr1_iff hF (by omega)).mpr (mkN_bit.mpr ⟨hjl, e⟩)) y) (fun _ => k_X1_countFrom_51 hZ.1 hZ.2.2.2.2.2.1 hp (Or.inl rfl) hZ.1 (fun q => ?_) (fun q => ?_)))
      · rw [shl_bit j (by omega), fa_or, h7, nI_eq (by omega) (by omega)] at q
        have hp5 : JMt mX7_pick (some .int) d [.ref (z + 5), .int (nI b ||| (1 : Int32) <<< (nI j &&& 31))] h (some (.int (nI (lasts P.length S ok (b ||| 2 ^ j))))) h := by
          rw [shl_bit j (by omega), fa_or, ← a2]; exact t_pick hZ.2.2.2.2.2.2.2.2.2.2.2.2.1 (by omega) hol
        refine k_X1_countFrom_89 hZ.1 hZ.2.2.2.2.2.2.1 hp5 (Or.inl rfl) (k_X1_countFrom_98 (k_X1_countFrom_101 ?_))
        rw [nI_add, fa_or, nI_1]
        refine ih (j + 1) _ _ (by omega) (by omega) ?_ ?_
        · rw [hx, sumN, if_pos e, Nat.add_assoc]
        · rw [hy, orN, if_pos e, if_neg q]
      · rw [shl_bit j (by omega), fa_or, h7, nI_eq (by omega) (by omega)] at q
        refine k_X1_countFrom_82 (k_X1_countFrom_98 (k_X1_countFrom_101 ?_))
        rw [shl_bit j (by omega), nI_add, fa_or, nI_1]
        refine ih (j + 1) _ _ (by omega) (by omega) ?_ ?_
        · rw [hx, sumN, if_pos e, Nat.add_assoc]
        · rw [hy, orN, if_pos e, if_pos q]
    · refine k_X1_countFrom_29 hZ.1 hZ.2.1 hC.1 (fun y => absurd y (by rw [hC.2.2.2.1]; exact nI_ge hjl (by omega))) (fun _ => k_X1_countFrom_41 (fun _ => k_X1_countFrom_101 ?_) (fun y => absurd (mkN_bit.mp ((shr1_iff hF (by omega)).mp y)).2 e))
      rw [nI_1]
      refine ih (j + 1) _ _ (by omega) (by omega) ?_ ?_
      · rw [hx, sumN, if_neg e, Nat.add_zero]
      · rw [hy, orN, if_neg e, Nat.or_zero]
theorem t_countFrom {S b : Nat} {ok : Nat → Nat → Bool} (hk : stepsOK P.length S ok) (hb : b < 256) (hZ : LinT h z c) (hC : CrowdS h c f P) (h7 : hI h z 7 = nI S) (hf : hI h (z + 3) b = nI (mkN (ok b) P.length))
    (hw : ∀ p, ok b p = true → hI h (z + 4) (b ||| 2 ^ p) = nI (ways P.length S ok (b ||| 2 ^ p)) ∧ hI h (z + 5) (b ||| 2 ^ p) = nI (lasts P.length S ok (b ||| 2 ^ p))) : JMt mX1_countFrom none (d + 1) [.ref z, .int (nI b)] h none (setI (setI h (z + 4) b (nI (ways P.length S ok b))) (z + 5) b (nI (lasts P.length S ok b))) := by
  have h256 := pow_le8 hC.2.2.2.2.1
  have hSl := hk.2.1
  have hp : JMt mX7_pick (some .int) d [.ref (z + 3), .int (nI b)] h (some (.int (nI (mkN (ok b) P.length)))) h := by
    rw [← hf]; exact t_pick hZ.2.2.2.2.2.2.2.2.2.2.1 (by omega) hb
  have tail : ∀ x : Nat, x = (if b = S then 1 else 0) → J mX1_countFrom (d + 1) 22 [some (.ref z), some (.int (nI b)), some (.int (nI (mkN (ok b) P.length))), none, none, none, none] [.int (nI x)] h none (setI (setI h (z + 4) b (nI (ways P.length S ok b))) (z + 5) b (nI (lasts P.length S ok b))) := fun x hx =>
    k_X1_countFrom_22 (l_count (d := d) hk hb hZ hC h7 hw _ 0 x 0 rfl (Nat.zero_le _) (by rw [hx]; rfl) rfl)
  refine jm mi_X1_countFrom (Nat.le_of_ble_eq_true rfl) rfl rfl (k_X1_countFrom_0 hZ.1 hZ.2.2.2.2.1 hp (Or.inl rfl) hZ.1 (fun q => k_X1_countFrom_21 (tail 0 ?_)) (fun q => k_X1_countFrom_17 (tail 1 ?_)))
  · rw [h7, nI_eq (by omega) (by omega)] at q
    rw [if_neg q]
  · rw [h7, nI_eq (by omega) (by omega)] at q
    rw [if_pos q]
/-- explore, nobody told -/
theorem l_clear_N {S : Nat} {x2 : Int32} (hS : S < 256) : ∀ m j (h : PH), S + 1 - j = m → j ≤ S + 1 → LinT h z c → ∃ h1, (∀ o h', J mX1_explore (d + 2) 30 [some (.ref z), some (.int (nI S)), some (.int x2), some (.null), some (.int (nI (S + 1)))] [] h1 o h' → J mX1_explore (d + 2) 8 [some (.ref z), some (.int (nI S)), some (.int x2), some (.null), some (.int (nI j))] [] h o h') ∧ Upd (fun i => i = z + 4) h h1 ∧ ∀ x, hI h1 (z + 4) x = if j ≤ x ∧ x ≤ S then 0 else hI h (z + 4) x := by
  intro m
  induction m with
  | zero =>
    intro j h hm hj hZ
    have e : j = S + 1 := by omega
    subst e
    exact ⟨h, fun o h' k => k_X1_explore_N_8 (fun _ => k) (fun q => absurd (nI_lt (by omega) (by omega)) q), Upd.rf, fun x => by rw [if_neg (by omega)]⟩
  | succ m ih =>
    intro j h hm hj hZ
    have hU : Upd (fun i => i = z + 4) h (setI h (z + 4) j 0) := Upd.set rfl
    obtain ⟨h1, j1, j2, j3⟩ := ih (j + 1) _ (by omega) (by omega) (hZ.keep2 hU (by omega) (by omega))
    refine ⟨h1, fun o h' k => k_X1_explore_N_8 (fun q => absurd q (nI_nlt (by omega) (by omega))) (fun _ => k_X1_explore_N_14 hZ.1 hZ.2.2.2.2.2.1 (t_put (k := j) (v := 0) hZ.2.2.2.2.2.2.2.2.2.2.2.1 (by omega) (by omega)) (Or.inl rfl) (by rw [nI_1]; exact j1 o h' k)), hU.tr j2, fun x => ?_⟩
    rw [j3 x, hI_setI]
    by_cases e : j + 1 ≤ x ∧ x ≤ S
    · rw [if_pos e, if_pos ⟨by omega, e.2⟩]
    · rw [if_neg e]
      by_cases e2 : x = j
      · rw [if_pos ⟨rfl, e2⟩, if_pos ⟨by omega, by omega⟩]
      · rw [if_neg (fun y => e2 y.2), if_neg (by omega)]
theorem l_up_N {S : Nat} {x2 : Int32} {ok : Nat → Nat → Bool} {h0 : PH} (hk : stepsOK P.length S ok) (hS : S < 256) (sc : ¬ expZ z c) (sf : ¬ expZ z f)
    (hfit : ∀ (g : PH) b, Upd (expZ z) h0 g → LinT g z c → CrowdS g c f P → hI g z 7 = nI S → b ≤ S → JMt mX1_whoStands (some .int) (d + 1) [.ref z, .int (nI b), .int x2] g (some (.int (nI (mkN (ok b) P.length)))) g) : ∀ m j (h : PH), S + 1 - j = m → j ≤ S + 1 → Upd (expZ z) h0 h → LinT h z c → CrowdS h c f P → hI h z 7 = nI S →
    (∀ x, x ≤ S → (mkd ok j x → hI h (z + 4) x = 1) ∧ (¬ mkd ok j x → hI h (z + 4) x = 0)) → (∀ e, e < j → rch ok 0 e → hI h (z + 3) e = nI (mkN (ok e) P.length)) →
    ∃ h1, (∀ o h', J mX1_explore (d + 2) 102 [some (.ref z), some (.int (nI S)), some (.int x2), some (.null), some (.int (nI (S + 1)))] [] h1 o h' → J mX1_explore (d + 2) 42 [some (.ref z), some (.int (nI S)), some (.int x2), some (.null), some (.int (nI j))] [] h o h') ∧ Upd (expZ z) h0 h1 ∧ hI h1 z 7 = nI S ∧ (∀ x, x ≤ S → (rch ok 0 x → hI h1 (z + 4) x = 1) ∧ (¬ rch ok 0 x → hI h1 (z + 4) x = 0)) ∧ (∀ e, e ≤ S → rch ok 0 e → hI h1 (z + 3) e = nI (mkN (ok e) P.length)) := by
  intro m
  induction m with
  | zero =>
    intro j h hm hj hU hZ hC h7 hw hf
    have e : j = S + 1 := by omega
    subst e
    refine ⟨h, fun o h' k => k_X1_explore_N_42 (fun _ => k) (fun q => absurd (nI_lt (by omega) (by omega)) q), hU, h7, fun x hx => ?_, fun e he => hf e (by omega)⟩
    have := hw x hx
    rw [mkd_ge hk (by omega)] at this
    exact this
  | succ m ih =>
    intro j h hm hj hU hZ hC h7 hw hf
    have h8 := hC.2.2.2.2.1
    have h256 := pow_le8 h8
    have pw : ∀ v, hI h (z + 4) j = v → JMt mX7_pick (some .int) (d + 1) [.ref (z + 4), .int (nI j)] h (some (.int v)) h := fun v e => by
      rw [← e]; exact t_pick hZ.2.2.2.2.2.2.2.2.2.2.2.1 (by omega) (by omega)
    have hwj := hw j (by omega)
    rw [mkd_ge hk (Nat.le_refl j)] at hwj
    by_cases hr : rch ok 0 j
    · have hfj := hfit h j hU hZ hC h7 (by omega)
      have hU2 : Upd (fun i => i = z + 3) h (setI h (z + 3) j (nI (mkN (ok j) P.length))) := Upd.set rfl
      have hp3 : JMt mX7_put none (d + 1) [.ref (z + 3), .int (nI j), .int (nI (mkN (ok j) P.length))] h none (setI h (z + 3) j (nI (mkN (ok j) P.length))) := t_put hZ.2.2.2.2.2.2.2.2.2.2.1 (by omega) (by omega)
      generalize hh2 : setI h (z + 3) j (nI (mkN (ok j) P.length)) = h2 at hU2 hp3
      have hZ2 := hZ.keep2 hU2 (by omega) (by omega)
      have hC2 := hC.keep hU2 (fun y => sc (Or.inr (Or.inl y))) (fun y => sf (Or.inr (Or.inl y)))
      have f2 : hI h2 (z + 3) j = nI (mkN (ok j) P.length) := by rw [← hh2, hI_setI, if_pos ⟨rfl, rfl⟩]
      obtain ⟨h3, r1, r2, r3, r4⟩ := t_reach (d := d) (b := j) (g := ok j) (by omega) (fun y => sc (Or.inr (Or.inr (Or.inl y)))) (fun y => sf (Or.inr (Or.inr (Or.inl y)))) hZ2 hC2 f2
      have hZ3 := hZ2.keep2 r2 (by omega) (by omega)
      have hC3 := hC2.keep r2 (fun y => sc (Or.inr (Or.inr (Or.inl y)))) (fun y => sf (Or.inr (Or.inr (Or.inl y))))
      have w2 : hI h2 (z + 4) = hI h (z + 4) := hU2.2.2.2.2.2 _ (by omega)
      have f3 : hI h3 (z + 3) = hI h2 (z + 3) := r2.2.2.2.2.2 _ (by omega)
      have U3 : Upd (expZ z) h0 h3 := (hU.tr (hU2.mono (fun i y => Or.inr (Or.inl y)))).tr (r2.mono (fun i y => Or.inr (Or.inr (Or.inl y))))
      have z3 : hI h3 z 7 = nI S := by rw [r2.2.2.2.2.2 z (by omega), hU2.2.2.2.2.2 z (by omega)]; exact h7
      obtain ⟨h4, i1, i2⟩ := ih (j + 1) h3 (by omega) (by omega) U3 hZ3 hC3 z3 (fun x hx => by
        by_cases y : ∃ p, p < P.length ∧ ok j p = true ∧ x = j ||| 2 ^ p
        · refine ⟨fun _ => r3 x y, fun q => absurd ?_ q⟩
          obtain ⟨p, y1, y2, y3⟩ := y
          exact Or.inr ⟨j, p, by omega, hr, y2, y3⟩
        · rw [r4 x y, w2]
          refine ⟨fun q => (hw x hx).1 ?_, fun q => (hw x hx).2 (fun q2 => q ?_)⟩
          · rcases q with q | ⟨e, p, q1, q2, q3, q4⟩
            · exact Or.inl q
            · by_cases ej : e = j
              · subst ej
                exact absurd ⟨p, bit_lt hk.2.1 (hk.2.2 e p q3).1, q3, q4⟩ y
              · exact Or.inr ⟨e, p, by omega, q2, q3, q4⟩
          · rcases q2 with q2 | ⟨e, p, q1, q2, q3, q4⟩
            · exact Or.inl q2
            · exact Or.inr ⟨e, p, by omega, q2, q3, q4⟩) (fun e he hre => by
        rw [f3]
        by_cases ej : e = j
        · rw [ej]; exact f2
        · rw [← hh2, hI_setI, if_neg (fun y => ej y.2)]; exact hf e (by omega) hre)
      refine ⟨h4, fun o h' k => k_X1_explore_N_42 (fun q => absurd q (nI_nlt (by omega) (by omega))) (fun _ => k_X1_explore_N_48 hZ.1 hZ.2.2.2.2.2.1 (pw 1 (hwj.1 hr)) (Or.inl rfl) (fun q => absurd q (by decide)) (fun _ => k_X1_explore_N_60 hZ.1 hZ.2.2.2.2.1 (k_X1_explore_N_70 hfj (Or.inl rfl) hZ.1 (k_X1_explore_N_87 hp3 (Or.inl hU2.1) r1 (Or.inl r2.1) hZ2.1 (k_X1_explore_N_96 (by rw [nI_1]; exact i1 o h' k)))))), i2⟩
    · obtain ⟨h4, i1, i2⟩ := ih (j + 1) h (by omega) (by omega) hU hZ hC h7 (fun x hx => by
        refine ⟨fun q => (hw x hx).1 ?_, fun q => (hw x hx).2 (fun q2 => q ?_)⟩
        · rcases q with q | ⟨e, p, q1, q2, q3, q4⟩
          · exact Or.inl q
          · exact Or.inr ⟨e, p, by have : e ≠ j := (fun y => hr (by rw [← y]; exact q2)); omega, q2, q3, q4⟩
        · rcases q2 with q2 | ⟨e, p, q1, q2, q3, q4⟩
          · exact Or.inl q2
          · exact Or.inr ⟨e, p, by omega, q2, q3, q4⟩) (fun e he hre => hf e (by have : e ≠ j := (fun y => hr (by rw [← y]; exact hre)); omega) hre)
      exact ⟨h4, fun o h' k => k_X1_explore_N_42 (fun q => absurd q (nI_nlt (by omega) (by omega))) (fun _ => k_X1_explore_N_48 hZ.1 hZ.2.2.2.2.2.1 (pw 0 (hwj.2 hr)) (Or.inl rfl) (fun _ => k_X1_explore_N_96 (by rw [nI_1]; exact i1 o h' k)) (fun q => absurd (Int32.le_refl _) q)), i2⟩
theorem l_down_N {S : Nat} {x2 : Int32} {ok : Nat → Nat → Bool} (hk : stepsOK P.length S ok) (hS : S < 256) (sc : ¬ expZ z c) (sf : ¬ expZ z f) : ∀ j (h : PH), j ≤ S + 1 → LinT h z c → CrowdS h c f P → hI h z 7 = nI S →
    (∀ x, x < j → (rch ok 0 x → hI h (z + 4) x = 1) ∧ (¬ rch ok 0 x → hI h (z + 4) x = 0)) → (∀ e, e ≤ S → rch ok 0 e → hI h (z + 3) e = nI (mkN (ok e) P.length)) →
    (∀ x, j ≤ x → x ≤ S → (rch ok 0 x → hI h (z + 4) x = nI (ways P.length S ok x) ∧ hI h (z + 5) x = nI (lasts P.length S ok x)) ∧ (¬ rch ok 0 x → hI h (z + 4) x = 0)) →
    ∃ h1, J mX1_explore (d + 2) 105 [some (.ref z), some (.int (nI S)), some (.int x2), some (.null), some (.int (sI ((j : Int) - 1)))] [] h none h1 ∧ Upd (expZ z) h h1 ∧ ExpS h1 z P.length S ok := by
  intro j
  induction j with
  | zero =>
    intro h hj hZ hC h7 hw hf hd
    exact ⟨h, k_X1_explore_N_105 (fun _ => k_X1_explore_N_134) (fun q => absurd (by decide) q), Upd.rf, h7, fun x hx hr => ⟨((hd x (Nat.zero_le _) hx).1 hr).1, ((hd x (Nat.zero_le _) hx).1 hr).2, hf x hx hr⟩, fun x hx hr => (hd x (Nat.zero_le _) hx).2 hr⟩
  | succ j ih =>
    intro h hj hZ hC h7 hw hf hd
    have h8 := hC.2.2.2.2.1
    have h256 := pow_le8 h8
    have e0 : sI (((j + 1 : Nat) : Int) - 1) = nI j := by rw [nI_sI]; congr 1; omega
    have e1 : nI j + (-1 : Int32) = sI ((j : Int) - 1) := by rw [nI_sI, neg1_sI, sI_add]; rfl
    rw [e0]
    have pw : ∀ v, hI h (z + 4) j = v → JMt mX7_pick (some .int) (d + 1) [.ref (z + 4), .int (nI j)] h (some (.int v)) h := fun v e => by
      rw [← e]; exact t_pick hZ.2.2.2.2.2.2.2.2.2.2.2.1 (by omega) (by omega)
    by_cases hr : rch ok 0 j
    · have hcf := t_countFrom (d := d) (b := j) hk (by omega) hZ hC h7 (hf j (by omega) hr) (fun p hp => (hd _ (lt_or (hk.2.2 j p hp).2) (subS_le (subS_or (rch_sub hk subS_0 hr) (hk.2.2 j p hp).1))).1 (rch_sn hr hp))
      generalize hh2 : setI (setI h (z + 4) j (nI (ways P.length S ok j))) (z + 5) j (nI (lasts P.length S ok j)) = h2 at hcf
      have hU2 : Upd (fun i => i = z + 4 ∨ i = z + 5) h h2 := by rw [← hh2]; exact (Upd.set (Or.inl rfl)).tr (Upd.set (Or.inr rfl))
      have q4 : ∀ x, hI h2 (z + 4) x = if x = j then nI (ways P.length S ok j) else hI h (z + 4) x := fun x => by
        rw [← hh2, hI_setI, if_neg (fun y => by omega), hI_setI]
        by_cases y : x = j
        · rw [if_pos ⟨rfl, y⟩, if_pos y]
        · rw [if_neg (fun w => y w.2), if_neg y]
      have q5 : ∀ x, hI h2 (z + 5) x = if x = j then nI (lasts P.length S ok j) else hI h (z + 5) x := fun x => by
        rw [← hh2, hI_setI]
        by_cases y : x = j
        · rw [if_pos ⟨rfl, y⟩, if_pos y]
        · rw [if_neg (fun w => y w.2), if_neg y, hI_setI, if_neg (fun w => by omega)]
      have q3 : hI h2 (z + 3) = hI h (z + 3) := hU2.2.2.2.2.2 _ (by omega)
      have q0 : hI h2 z = hI h z := hU2.2.2.2.2.2 _ (by omega)
      obtain ⟨h3, i1, i2, i3⟩ := ih h2 (by omega) (hZ.keep2 hU2 (by omega) (by omega)) (hC.keep hU2 (fun y => sc (Or.inr (Or.inr y))) (fun y => sf (Or.inr (Or.inr y)))) (by rw [q0]; exact h7) (fun x hx => by
        rw [q4 x, if_neg (by omega)]; exact hw x (by omega)) (fun e he hre => by rw [q3]; exact hf e he hre) (fun x hx hxS => by
        rw [q4 x, q5 x]
        by_cases y : x = j
        · rw [if_pos y, if_pos y, y]
          exact ⟨fun _ => ⟨rfl, rfl⟩, fun q => absurd hr q⟩
        · rw [if_neg y, if_neg y]; exact hd x (by omega) hxS)
      refine ⟨h3, k_X1_explore_N_105 (fun q => absurd q (nI_lt0 (by omega))) (fun _ => k_X1_explore_N_110 hZ.1 hZ.2.2.2.2.2.1 (pw 1 ((hw j (by omega)).1 hr)) (Or.inl rfl) (fun q => absurd q (by decide)) (fun _ => k_X1_explore_N_122 hcf (Or.inl hU2.1) hZ.1 (k_X1_explore_N_128 (by rw [e1]; exact i1)))), (hU2.mono (fun i y => Or.inr (Or.inr y))).tr i2, i3⟩
    · obtain ⟨h3, i1, i2, i3⟩ := ih h (by omega) hZ hC h7 (fun x hx => hw x (by omega)) hf (fun x hx hxS => by
        by_cases y : x = j
        · rw [y]
          exact ⟨fun q => absurd q hr, fun _ => (hw j (by omega)).2 hr⟩
        · exact hd x (by omega) hxS)
      exact ⟨h3, k_X1_explore_N_105 (fun q => absurd q (nI_lt0 (by omega))) (fun _ => k_X1_explore_N_110 hZ.1 hZ.2.2.2.2.2.1 (pw 0 ((hw j (by omega)).2 hr)) (Or.inl rfl) (fun _ => k_X1_explore_N_128 (by rw [e1]; exact i1)) (fun q => absurd (Int32.le_refl _) q)), i2, i3⟩
theorem t_explore_N {S : Nat} {x2 : Int32} {ok : Nat → Nat → Bool} (hk : stepsOK P.length S ok) (hZ : LinT h z c) (hC : CrowdS h c f P) (sc : ¬ expZ z c) (sf : ¬ expZ z f)
    (hfit : ∀ (g : PH) b, Upd (expZ z) h g → LinT g z c → CrowdS g c f P → hI g z 7 = nI S → b ≤ S → JMt mX1_whoStands (some .int) (d + 1) [.ref z, .int (nI b), .int x2] g (some (.int (nI (mkN (ok b) P.length)))) g) :
    ∃ h1, JMt mX1_explore none (d + 2) [.ref z, .int (nI S), .int x2, .null] h none h1 ∧ Upd (expZ z) h h1 ∧ LinT h1 z c ∧ ExpS h1 z P.length S ok := by
  have h8 := hC.2.2.2.2.1
  have h256 := pow_le8 h8
  have hSl := hk.2.1
  have hU1 : Upd (expZ z) h (setI h z 7 (nI S)) := Upd.set (Or.inl rfl)
  generalize hh1 : setI h z 7 (nI S) = g1 at hU1
  have x0 : ∀ {i}, i = z + 1 ∨ i = z + 2 → ¬ expZ z i := fun y w => by unfold expZ at w; omega
  have hZ1 := hZ.keep2 hU1 (x0 (Or.inl rfl)) (x0 (Or.inr rfl))
  have z1 : hI g1 z 7 = nI S := by rw [← hh1, hI_setI, if_pos ⟨rfl, rfl⟩]
  obtain ⟨g2, a1, a2, a3⟩ := l_clear_N (d := d) (S := S)  (x2 := x2) (by omega) _ 0 g1 rfl (Nat.zero_le _) hZ1
  have hZ2 := hZ1.keep2 a2 (by omega) (by omega)
  have hU2 : Upd (expZ z) h g2 := hU1.tr (a2.mono (fun i y => Or.inr (Or.inr (Or.inl y))))
  have hU3 : Upd (fun i => i = z + 4) g2 (setI g2 (z + 4) 0 1) := Upd.set rfl
  have hp : JMt mX7_put none (d + 1) [.ref (z + 4), .int 0, .int 1] g2 none (setI g2 (z + 4) 0 1) := t_put (k := 0) hZ2.2.2.2.2.2.2.2.2.2.2.2.1 (by omega) (by omega)
  generalize hh3 : setI g2 (z + 4) 0 1 = g3 at hU3 hp
  have hZ3 := hZ2.keep2 hU3 (by omega) (by omega)
  have U3 : Upd (expZ z) h g3 := hU2.tr (hU3.mono (fun i y => Or.inr (Or.inr (Or.inl y))))
  have hC3 := hC.keep U3 sc sf
  have z3 : hI g3 z 7 = nI S := by rw [hU3.2.2.2.2.2 z (by omega), a2.2.2.2.2.2 z (by omega)]; exact z1
  obtain ⟨g4, b1, b2, b3, b4, b5⟩ := l_up_N (d := d)  (x2 := x2) hk (by omega) sc sf hfit _ 0 g3 rfl (Nat.zero_le _) U3 hZ3 hC3 z3 (fun x hx => by
    rw [← hh3, hI_setI]
    by_cases y : x = 0
    · rw [if_pos ⟨rfl, y⟩]; exact ⟨fun _ => rfl, fun q => absurd (Or.inl y) q⟩
    · rw [if_neg (fun w => y w.2), a3 x, if_pos ⟨Nat.zero_le _, hx⟩]
      refine ⟨fun q => ?_, fun _ => rfl⟩
      rcases q with q | ⟨e, p, q1, _⟩
      · exact absurd q y
      · omega) (fun e he => absurd he (Nat.not_lt_zero e))
  have hZ4 := hZ.keep2 b2 (x0 (Or.inl rfl)) (x0 (Or.inr rfl))
  have hC4 := hC.keep b2 sc sf
  obtain ⟨g5, c1, c2, c3⟩ := l_down_N (d := d)  (x2 := x2) hk (by omega) sc sf (S + 1) g4 (Nat.le_refl _) hZ4 hC4 b3 (fun x hx => b4 x (by omega)) b5 (fun x h1 h2 => by omega)
  have e0 : sI (((S + 1 : Nat) : Int) - 1) = nI S := by rw [nI_sI]; congr 1; omega
  rw [e0] at c1
  exact ⟨g5, jm mi_X1_explore (Nat.le_of_ble_eq_true rfl) rfl rfl (k_X1_explore_N_0 hZ.1 (by rw [hh1]; exact a1 _ _ (k_X1_explore_N_30 hZ2.1 hZ2.2.2.2.2.2.1 hp (Or.inl hU3.1) (b1 _ _ (k_X1_explore_N_102 c1))))), b2.tr c2, hZ4.keep2 c2 (x0 (Or.inl rfl)) (x0 (Or.inr rfl)), c3⟩
/-- explore, loads told -/
theorem l_clear_R {S r : Nat} {x2 : Int32} (hS : S < 256) : ∀ m j (h : PH), S + 1 - j = m → j ≤ S + 1 → LinT h z c → ∃ h1, (∀ o h', J mX1_explore (d + 2) 30 [some (.ref z), some (.int (nI S)), some (.int x2), some (.ref r), some (.int (nI (S + 1)))] [] h1 o h' → J mX1_explore (d + 2) 8 [some (.ref z), some (.int (nI S)), some (.int x2), some (.ref r), some (.int (nI j))] [] h o h') ∧ Upd (fun i => i = z + 4) h h1 ∧ ∀ x, hI h1 (z + 4) x = if j ≤ x ∧ x ≤ S then 0 else hI h (z + 4) x := by
  intro m
  induction m with
  | zero =>
    intro j h hm hj hZ
    have e : j = S + 1 := by omega
    subst e
    exact ⟨h, fun o h' k => k_X1_explore_R_8 (fun _ => k) (fun q => absurd (nI_lt (by omega) (by omega)) q), Upd.rf, fun x => by rw [if_neg (by omega)]⟩
  | succ m ih =>
    intro j h hm hj hZ
    have hU : Upd (fun i => i = z + 4) h (setI h (z + 4) j 0) := Upd.set rfl
    obtain ⟨h1, j1, j2, j3⟩ := ih (j + 1) _ (by omega) (by omega) (hZ.keep2 hU (by omega) (by omega))
    refine ⟨h1, fun o h' k => k_X1_explore_R_8 (fun q => absurd q (nI_nlt (by omega) (by omega))) (fun _ => k_X1_explore_R_14 hZ.1 hZ.2.2.2.2.2.1 (t_put (k := j) (v := 0) hZ.2.2.2.2.2.2.2.2.2.2.2.1 (by omega) (by omega)) (Or.inl rfl) (by rw [nI_1]; exact j1 o h' k)), hU.tr j2, fun x => ?_⟩
    rw [j3 x, hI_setI]
    by_cases e : j + 1 ≤ x ∧ x ≤ S
    · rw [if_pos e, if_pos ⟨by omega, e.2⟩]
    · rw [if_neg e]
      by_cases e2 : x = j
      · rw [if_pos ⟨rfl, e2⟩, if_pos ⟨by omega, by omega⟩]
      · rw [if_neg (fun y => e2 y.2), if_neg (by omega)]
theorem l_up_R {S r : Nat} {x2 : Int32} {ok : Nat → Nat → Bool} {h0 : PH} (hk : stepsOK P.length S ok) (hS : S < 256) (sc : ¬ expZ z c) (sf : ¬ expZ z f)
    (hfit : ∀ (g : PH) b, Upd (expZ z) h0 g → LinT g z c → CrowdS g c f P → hI g z 7 = nI S → b ≤ S → JMt mX1_whoBears (some .int) (d + 1) [.ref z, .int (nI b), .ref r] g (some (.int (nI (mkN (ok b) P.length)))) g) : ∀ m j (h : PH), S + 1 - j = m → j ≤ S + 1 → Upd (expZ z) h0 h → LinT h z c → CrowdS h c f P → hI h z 7 = nI S →
    (∀ x, x ≤ S → (mkd ok j x → hI h (z + 4) x = 1) ∧ (¬ mkd ok j x → hI h (z + 4) x = 0)) → (∀ e, e < j → rch ok 0 e → hI h (z + 3) e = nI (mkN (ok e) P.length)) →
    ∃ h1, (∀ o h', J mX1_explore (d + 2) 102 [some (.ref z), some (.int (nI S)), some (.int x2), some (.ref r), some (.int (nI (S + 1)))] [] h1 o h' → J mX1_explore (d + 2) 42 [some (.ref z), some (.int (nI S)), some (.int x2), some (.ref r), some (.int (nI j))] [] h o h') ∧ Upd (expZ z) h0 h1 ∧ hI h1 z 7 = nI S ∧ (∀ x, x ≤ S → (rch ok 0 x → hI h1 (z + 4) x = 1) ∧ (¬ rch ok 0 x → hI h1 (z + 4) x = 0)) ∧ (∀ e, e ≤ S → rch ok 0 e → hI h1 (z + 3) e = nI (mkN (ok e) P.length)) := by
  intro m
  induction m with
  | zero =>
    intro j h hm hj hU hZ hC h7 hw hf
    have e : j = S + 1 := by omega
    subst e
    refine ⟨h, fun o h' k => k_X1_explore_R_42 (fun _ => k) (fun q => absurd (nI_lt (by omega) (by omega)) q), hU, h7, fun x hx => ?_, fun e he => hf e (by omega)⟩
    have := hw x hx
    rw [mkd_ge hk (by omega)] at this
    exact this
  | succ m ih =>
    intro j h hm hj hU hZ hC h7 hw hf
    have h8 := hC.2.2.2.2.1
    have h256 := pow_le8 h8
    have pw : ∀ v, hI h (z + 4) j = v → JMt mX7_pick (some .int) (d + 1) [.ref (z + 4), .int (nI j)] h (some (.int v)) h := fun v e => by
      rw [← e]; exact t_pick hZ.2.2.2.2.2.2.2.2.2.2.2.1 (by omega) (by omega)
    have hwj := hw j (by omega)
    rw [mkd_ge hk (Nat.le_refl j)] at hwj
    by_cases hr : rch ok 0 j
    · have hfj := hfit h j hU hZ hC h7 (by omega)
      have hU2 : Upd (fun i => i = z + 3) h (setI h (z + 3) j (nI (mkN (ok j) P.length))) := Upd.set rfl
      have hp3 : JMt mX7_put none (d + 1) [.ref (z + 3), .int (nI j), .int (nI (mkN (ok j) P.length))] h none (setI h (z + 3) j (nI (mkN (ok j) P.length))) := t_put hZ.2.2.2.2.2.2.2.2.2.2.1 (by omega) (by omega)
      generalize hh2 : setI h (z + 3) j (nI (mkN (ok j) P.length)) = h2 at hU2 hp3
      have hZ2 := hZ.keep2 hU2 (by omega) (by omega)
      have hC2 := hC.keep hU2 (fun y => sc (Or.inr (Or.inl y))) (fun y => sf (Or.inr (Or.inl y)))
      have f2 : hI h2 (z + 3) j = nI (mkN (ok j) P.length) := by rw [← hh2, hI_setI, if_pos ⟨rfl, rfl⟩]
      obtain ⟨h3, r1, r2, r3, r4⟩ := t_reach (d := d) (b := j) (g := ok j) (by omega) (fun y => sc (Or.inr (Or.inr (Or.inl y)))) (fun y => sf (Or.inr (Or.inr (Or.inl y)))) hZ2 hC2 f2
      have hZ3 := hZ2.keep2 r2 (by omega) (by omega)
      have hC3 := hC2.keep r2 (fun y => sc (Or.inr (Or.inr (Or.inl y)))) (fun y => sf (Or.inr (Or.inr (Or.inl y))))
      have w2 : hI h2 (z + 4) = hI h (z + 4) := hU2.2.2.2.2.2 _ (by omega)
      have f3 : hI h3 (z + 3) = hI h2 (z + 3) := r2.2.2.2.2.2 _ (by omega)
      have U3 : Upd (expZ z) h0 h3 := (hU.tr (hU2.mono (fun i y => Or.inr (Or.inl y)))).tr (r2.mono (fun i y => Or.inr (Or.inr (Or.inl y))))
      have z3 : hI h3 z 7 = nI S := by rw [r2.2.2.2.2.2 z (by omega), hU2.2.2.2.2.2 z (by omega)]; exact h7
      obtain ⟨h4, i1, i2⟩ := ih (j + 1) h3 (by omega) (by omega) U3 hZ3 hC3 z3 (fun x hx => by
        by_cases y : ∃ p, p < P.length ∧ ok j p = true ∧ x = j ||| 2 ^ p
        · refine ⟨fun _ => r3 x y, fun q => absurd ?_ q⟩
          obtain ⟨p, y1, y2, y3⟩ := y
          exact Or.inr ⟨j, p, by omega, hr, y2, y3⟩
        · rw [r4 x y, w2]
          refine ⟨fun q => (hw x hx).1 ?_, fun q => (hw x hx).2 (fun q2 => q ?_)⟩
          · rcases q with q | ⟨e, p, q1, q2, q3, q4⟩
            · exact Or.inl q
            · by_cases ej : e = j
              · subst ej
                exact absurd ⟨p, bit_lt hk.2.1 (hk.2.2 e p q3).1, q3, q4⟩ y
              · exact Or.inr ⟨e, p, by omega, q2, q3, q4⟩
          · rcases q2 with q2 | ⟨e, p, q1, q2, q3, q4⟩
            · exact Or.inl q2
            · exact Or.inr ⟨e, p, by omega, q2, q3, q4⟩) (fun e he hre => by
        rw [f3]
        by_cases ej : e = j
        · rw [ej]; exact f2
        · rw [← hh2, hI_setI, if_neg (fun y => ej y.2)]; exact hf e (by omega) hre)
      refine ⟨h4, fun o h' k => k_X1_explore_R_42 (fun q => absurd q (nI_nlt (by omega) (by omega))) (fun _ => k_X1_explore_R_48 hZ.1 hZ.2.2.2.2.2.1 (pw 1 (hwj.1 hr)) (Or.inl rfl) (fun q => absurd q (by decide)) (fun _ => k_X1_explore_R_60 hZ.1 hZ.2.2.2.2.1 (k_X1_explore_R_80 hfj (Or.inl rfl) hZ.1 (k_X1_explore_R_87 hp3 (Or.inl hU2.1) r1 (Or.inl r2.1) hZ2.1 (k_X1_explore_R_96 (by rw [nI_1]; exact i1 o h' k)))))), i2⟩
    · obtain ⟨h4, i1, i2⟩ := ih (j + 1) h (by omega) (by omega) hU hZ hC h7 (fun x hx => by
        refine ⟨fun q => (hw x hx).1 ?_, fun q => (hw x hx).2 (fun q2 => q ?_)⟩
        · rcases q with q | ⟨e, p, q1, q2, q3, q4⟩
          · exact Or.inl q
          · exact Or.inr ⟨e, p, by have : e ≠ j := (fun y => hr (by rw [← y]; exact q2)); omega, q2, q3, q4⟩
        · rcases q2 with q2 | ⟨e, p, q1, q2, q3, q4⟩
          · exact Or.inl q2
          · exact Or.inr ⟨e, p, by omega, q2, q3, q4⟩) (fun e he hre => hf e (by have : e ≠ j := (fun y => hr (by rw [← y]; exact hre)); omega) hre)
      exact ⟨h4, fun o h' k => k_X1_explore_R_42 (fun q => absurd q (nI_nlt (by omega) (by omega))) (fun _ => k_X1_explore_R_48 hZ.1 hZ.2.2.2.2.2.1 (pw 0 (hwj.2 hr)) (Or.inl rfl) (fun _ => k_X1_explore_R_96 (by rw [nI_1]; exact i1 o h' k)) (fun q => absurd (Int32.le_refl _) q)), i2⟩
theorem l_down_R {S r : Nat} {x2 : Int32} {ok : Nat → Nat → Bool} (hk : stepsOK P.length S ok) (hS : S < 256) (sc : ¬ expZ z c) (sf : ¬ expZ z f) : ∀ j (h : PH), j ≤ S + 1 → LinT h z c → CrowdS h c f P → hI h z 7 = nI S →
    (∀ x, x < j → (rch ok 0 x → hI h (z + 4) x = 1) ∧ (¬ rch ok 0 x → hI h (z + 4) x = 0)) → (∀ e, e ≤ S → rch ok 0 e → hI h (z + 3) e = nI (mkN (ok e) P.length)) →
    (∀ x, j ≤ x → x ≤ S → (rch ok 0 x → hI h (z + 4) x = nI (ways P.length S ok x) ∧ hI h (z + 5) x = nI (lasts P.length S ok x)) ∧ (¬ rch ok 0 x → hI h (z + 4) x = 0)) →
    ∃ h1, J mX1_explore (d + 2) 105 [some (.ref z), some (.int (nI S)), some (.int x2), some (.ref r), some (.int (sI ((j : Int) - 1)))] [] h none h1 ∧ Upd (expZ z) h h1 ∧ ExpS h1 z P.length S ok := by
  intro j
  induction j with
  | zero =>
    intro h hj hZ hC h7 hw hf hd
    exact ⟨h, k_X1_explore_R_105 (fun _ => k_X1_explore_R_134) (fun q => absurd (by decide) q), Upd.rf, h7, fun x hx hr => ⟨((hd x (Nat.zero_le _) hx).1 hr).1, ((hd x (Nat.zero_le _) hx).1 hr).2, hf x hx hr⟩, fun x hx hr => (hd x (Nat.zero_le _) hx).2 hr⟩
  | succ j ih =>
    intro h hj hZ hC h7 hw hf hd
    have h8 := hC.2.2.2.2.1
    have h256 := pow_le8 h8
    have e0 : sI (((j + 1 : Nat) : Int) - 1) = nI j := by rw [nI_sI]; congr 1; omega
    have e1 : nI j + (-1 : Int32) = sI ((j : Int) - 1) := by rw [nI_sI, neg1_sI, sI_add]; rfl
    rw [e0]
    have pw : ∀ v, hI h (z + 4) j = v → JMt mX7_pick (some .int) (d + 1) [.ref (z + 4), .int (nI j)] h (some (.int v)) h := fun v e => by
      rw [← e]; exact t_pick hZ.2.2.2.2.2.2.2.2.2.2.2.1 (by omega) (by omega)
    by_cases hr : rch ok 0 j
    · have hcf := t_countFrom (d := d) (b := j) hk (by omega) hZ hC h7 (hf j (by omega) hr) (fun p hp => (hd _ (lt_or (hk.2.2 j p hp).2) (subS_le (subS_or (rch_sub hk subS_0 hr) (hk.2.2 j p hp).1))).1 (rch_sn hr hp))
      generalize hh2 : setI (setI h (z + 4) j (nI (ways P.length S ok j))) (z + 5) j (nI (lasts P.length S ok j)) = h2 at hcf
      have hU2 : Upd (fun i => i = z + 4 ∨ i = z + 5) h h2 := by rw [← hh2]; exact (Upd.set (Or.inl rfl)).tr (Upd.set (Or.inr rfl))
      have q4 : ∀ x, hI h2 (z + 4) x = if x = j then nI (ways P.length S ok j) else hI h (z + 4) x := fun x => by
        rw [← hh2, hI_setI, if_neg (fun y => by omega), hI_setI]
        by_cases y : x = j
        · rw [if_pos ⟨rfl, y⟩, if_pos y]
        · rw [if_neg (fun w => y w.2), if_neg y]
      have q5 : ∀ x, hI h2 (z + 5) x = if x = j then nI (lasts P.length S ok j) else hI h (z + 5) x := fun x => by
        rw [← hh2, hI_setI]
        by_cases y : x = j
        · rw [if_pos ⟨rfl, y⟩, if_pos y]
        · rw [if_neg (fun w => y w.2), if_neg y, hI_setI, if_neg (fun w => by omega)]
      have q3 : hI h2 (z + 3) = hI h (z + 3) := hU2.2.2.2.2.2 _ (by omega)
      have q0 : hI h2 z = hI h z := hU2.2.2.2.2.2 _ (by omega)
      obtain ⟨h3, i1, i2, i3⟩ := ih h2 (by omega) (hZ.keep2 hU2 (by omega) (by omega)) (hC.keep hU2 (fun y => sc (Or.inr (Or.inr y))) (fun y => sf (Or.inr (Or.inr y)))) (by rw [q0]; exact h7) (fun x hx => by
        rw [q4 x, if_neg (by omega)]; exact hw x (by omega)) (fun e he hre => by rw [q3]; exact hf e he hre) (fun x hx hxS => by
        rw [q4 x, q5 x]
        by_cases y : x = j
        · rw [if_pos y, if_pos y, y]
          exact ⟨fun _ => ⟨rfl, rfl⟩, fun q => absurd hr q⟩
        · rw [if_neg y, if_neg y]; exact hd x (by omega) hxS)
      refine ⟨h3, k_X1_explore_R_105 (fun q => absurd q (nI_lt0 (by omega))) (fun _ => k_X1_explore_R_110 hZ.1 hZ.2.2.2.2.2.1 (pw 1 ((hw j (by omega)).1 hr)) (Or.inl rfl) (fun q => absurd q (by decide)) (fun _ => k_X1_explore_R_122 hcf (Or.inl hU2.1) hZ.1 (k_X1_explore_R_128 (by rw [e1]; exact i1)))), (hU2.mono (fun i y => Or.inr (Or.inr y))).tr i2, i3⟩
    · obtain ⟨h3, i1, i2, i3⟩ := ih h (by omega) hZ hC h7 (fun x hx => hw x (by omega)) hf (fun x hx hxS => by
        by_cases y : x = j
        · rw [y]
          exact ⟨fun q => absurd q hr, fun _ => (hw j (by omega)).2 hr⟩
        · exact hd x (by omega) hxS)
      exact ⟨h3, k_X1_explore_R_105 (fun q => absurd q (nI_lt0 (by omega))) (fun _ => k_X1_explore_R_110 hZ.1 hZ.2.2.2.2.2.1 (pw 0 ((hw j (by omega)).2 hr)) (Or.inl rfl) (fun _ => k_X1_explore_R_128 (by rw [e1]; exact i1)) (fun q => absurd (Int32.le_refl _) q)), i2, i3⟩
theorem t_explore_R {S r : Nat} {x2 : Int32} {ok : Nat → Nat → Bool} (hk : stepsOK P.length S ok) (hZ : LinT h z c) (hC : CrowdS h c f P) (sc : ¬ expZ z c) (sf : ¬ expZ z f)
    (hfit : ∀ (g : PH) b, Upd (expZ z) h g → LinT g z c → CrowdS g c f P → hI g z 7 = nI S → b ≤ S → JMt mX1_whoBears (some .int) (d + 1) [.ref z, .int (nI b), .ref r] g (some (.int (nI (mkN (ok b) P.length)))) g) :
    ∃ h1, JMt mX1_explore none (d + 2) [.ref z, .int (nI S), .int x2, .ref r] h none h1 ∧ Upd (expZ z) h h1 ∧ LinT h1 z c ∧ ExpS h1 z P.length S ok := by
  have h8 := hC.2.2.2.2.1
  have h256 := pow_le8 h8
  have hSl := hk.2.1
  have hU1 : Upd (expZ z) h (setI h z 7 (nI S)) := Upd.set (Or.inl rfl)
  generalize hh1 : setI h z 7 (nI S) = g1 at hU1
  have x0 : ∀ {i}, i = z + 1 ∨ i = z + 2 → ¬ expZ z i := fun y w => by unfold expZ at w; omega
  have hZ1 := hZ.keep2 hU1 (x0 (Or.inl rfl)) (x0 (Or.inr rfl))
  have z1 : hI g1 z 7 = nI S := by rw [← hh1, hI_setI, if_pos ⟨rfl, rfl⟩]
  obtain ⟨g2, a1, a2, a3⟩ := l_clear_R (d := d) (S := S) (r := r) (x2 := x2) (by omega) _ 0 g1 rfl (Nat.zero_le _) hZ1
  have hZ2 := hZ1.keep2 a2 (by omega) (by omega)
  have hU2 : Upd (expZ z) h g2 := hU1.tr (a2.mono (fun i y => Or.inr (Or.inr (Or.inl y))))
  have hU3 : Upd (fun i => i = z + 4) g2 (setI g2 (z + 4) 0 1) := Upd.set rfl
  have hp : JMt mX7_put none (d + 1) [.ref (z + 4), .int 0, .int 1] g2 none (setI g2 (z + 4) 0 1) := t_put (k := 0) hZ2.2.2.2.2.2.2.2.2.2.2.2.1 (by omega) (by omega)
  generalize hh3 : setI g2 (z + 4) 0 1 = g3 at hU3 hp
  have hZ3 := hZ2.keep2 hU3 (by omega) (by omega)
  have U3 : Upd (expZ z) h g3 := hU2.tr (hU3.mono (fun i y => Or.inr (Or.inr (Or.inl y))))
  have hC3 := hC.keep U3 sc sf
  have z3 : hI g3 z 7 = nI S := by rw [hU3.2.2.2.2.2 z (by omega), a2.2.2.2.2.2 z (by omega)]; exact z1
  obtain ⟨g4, b1, b2, b3, b4, b5⟩ := l_up_R (d := d) (r := r) (x2 := x2) hk (by omega) sc sf hfit _ 0 g3 rfl (Nat.zero_le _) U3 hZ3 hC3 z3 (fun x hx => by
    rw [← hh3, hI_setI]
    by_cases y : x = 0
    · rw [if_pos ⟨rfl, y⟩]; exact ⟨fun _ => rfl, fun q => absurd (Or.inl y) q⟩
    · rw [if_neg (fun w => y w.2), a3 x, if_pos ⟨Nat.zero_le _, hx⟩]
      refine ⟨fun q => ?_, fun _ => rfl⟩
      rcases q with q | ⟨e, p, q1, _⟩
      · exact absurd q y
      · omega) (fun e he => absurd he (Nat.not_lt_zero e))
  have hZ4 := hZ.keep2 b2 (x0 (Or.inl rfl)) (x0 (Or.inr rfl))
  have hC4 := hC.keep b2 sc sf
  obtain ⟨g5, c1, c2, c3⟩ := l_down_R (d := d) (r := r) (x2 := x2) hk (by omega) sc sf (S + 1) g4 (Nat.le_refl _) hZ4 hC4 b3 (fun x hx => b4 x (by omega)) b5 (fun x h1 h2 => by omega)
  have e0 : sI (((S + 1 : Nat) : Int) - 1) = nI S := by rw [nI_sI]; congr 1; omega
  rw [e0] at c1
  exact ⟨g5, jm mi_X1_explore (Nat.le_of_ble_eq_true rfl) rfl rfl (k_X1_explore_R_0 hZ.1 (by rw [hh1]; exact a1 _ _ (k_X1_explore_R_30 hZ2.1 hZ2.2.2.2.2.2.1 hp (Or.inl hU3.1) (b1 _ _ (k_X1_explore_R_102 c1))))), b2.tr c2, hZ4.keep2 c2 (x0 (Or.inl rfl)) (x0 (Or.inr rfl)), c3⟩
theorem t_letStand {w S : Nat} (hZ : LinT h z c) (hC : CrowdS h c f P) (sc : ¬ inZ z c) (sf : ¬ inZ z f) (hS : S < 2 ^ P.length) (hw : w ≤ 9) : ∃ h1, JMt mX1_letStand none (d + 3) [.ref z, .int (nI S), .int (nI w)] h none h1 ∧ Upd (inZ z) h h1 ∧ LinT h1 z c ∧ MeasS h1 z P ∧ ExpS h1 z P.length S (okS P w S) := by
  have ie : ∀ i, expZ z i → inZ z i := fun i y => by unfold expZ at y; unfold inZ; omega
  have im : ∀ i, i = z + 1 ∨ i = z + 2 → inZ z i := fun i y => by unfold inZ; omega
  obtain ⟨g1, a1, a2, a3, a4⟩ := t_measureSets (d := d + 1) hZ hC (fun y => sc (im _ y)) (fun y => sf (im _ y))
  have hC1 := hC.keep a2 (fun y => sc (im _ y)) (fun y => sf (im _ y))
  obtain ⟨g2, b1, b2, b3, b4⟩ := t_explore_N (d := d) (x2 := nI w) (okS_steps hC.2.2.2.2.1 hS) a3 hC1 (fun y => sc (ie _ y)) (fun y => sf (ie _ y)) (fun g b hU hZ' hC' h7 hb => t_whoStands hZ' hC' (a4.keep hU (fun y => by unfold expZ at y; omega) (fun y => by unfold expZ at y; omega)) h7 hS hw (by omega))
  exact ⟨g2, jm mi_X1_letStand (Nat.le_of_ble_eq_true rfl) rfl rfl (k_X1_letStand_0 a1 (Or.inl a2.1) hZ.1 b1 (Or.inl b2.1) a3.1), (a2.mono im).tr (b2.mono ie), b3, a4.keep b2 (fun y => by unfold expZ at y; omega) (fun y => by unfold expZ at y; omega), b4⟩
theorem t_letLoadsBe {S r cc sort m : Nat} {v : Nat → Int64} (hZ : LinT h z c) (hC : CrowdS h c f P) (hR : RowS h r cc sort m v) (sc : ¬ inZ z c) (sf : ¬ inZ z f) (sr : ¬ inZ z r) (scc : ¬ inZ z cc) (hS : S < 2 ^ P.length) : ∃ h1, JMt mX1_letLoadsBe none (d + 3) [.ref z, .int (nI S), .ref r] h none h1 ∧ Upd (inZ z) h h1 ∧ LinT h1 z c ∧ MeasS h1 z P ∧ ExpS h1 z P.length S (okB P m v S) := by
  have ie : ∀ i, expZ z i → inZ z i := fun i y => by unfold expZ at y; unfold inZ; omega
  have im : ∀ i, i = z + 1 ∨ i = z + 2 → inZ z i := fun i y => by unfold inZ; omega
  obtain ⟨g1, a1, a2, a3, a4⟩ := t_measureSets (d := d + 1) hZ hC (fun y => sc (im _ y)) (fun y => sf (im _ y))
  have hC1 := hC.keep a2 (fun y => sc (im _ y)) (fun y => sf (im _ y))
  have hR1 := hR.chg a2.chg (fun y => sr (im _ y)) (fun y => scc (im _ y))
  obtain ⟨g2, b1, b2, b3, b4⟩ := t_explore_R (d := d) (r := r) (x2 := 0) (okB_steps hC.2.2.2.2.1 hS) a3 hC1 (fun y => sc (ie _ y)) (fun y => sf (ie _ y)) (fun g b hU hZ' hC' h7 hb => t_whoBears hZ' hC' (a4.keep hU (fun y => by unfold expZ at y; omega) (fun y => by unfold expZ at y; omega)) (hR1.chg hU.chg (fun y => sr (ie _ y)) (fun y => scc (ie _ y))) h7 hS (by omega))
  exact ⟨g2, jm mi_X1_letLoadsBe (Nat.le_of_ble_eq_true rfl) rfl rfl (k_X1_letLoadsBe_0 a1 (Or.inl a2.1) hZ.1 b1 (Or.inl b2.1) a3.1), (a2.mono im).tr (b2.mono ie), b3, a4.keep b2 (fun y => by unfold expZ at y; omega) (fun y => by unfold expZ at y; omega), b4⟩
end EX
