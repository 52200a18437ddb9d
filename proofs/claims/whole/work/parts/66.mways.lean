/-! the reference: all orders of told people, by sets below -/
theorem dif_lt8 {S b : Nat} (hS : S < 256) : difN S b < 256 := dif_lt hS
theorem sub_dif {b S : Nat} (hb : b < 256) : difN b S = 0 ↔ subS b S := by
  constructor
  · intro h p hp
    have := dif_bit (S := b) (b := S) (i := p) hb
    rw [h, Nat.zero_testBit, hp, Bool.true_and] at this
    cases hs : S.testBit p with
    | true => rfl
    | false => rw [hs] at this; cases this
  · intro h
    apply Nat.eq_of_testBit_eq
    intro p
    rw [dif_bit hb, Nat.zero_testBit]
    cases hp : b.testBit p with
    | false => rfl
    | true => rw [h p hp]; rfl
theorem sub_I {b S : Nat} (hb : b < 256) (hS : S < 256) : nI b &&& (nI S ^^^ (-1 : Int32)) = 0 ↔ subS b S := by
  rw [dif_I hb hS, ← sub_dif hb]
  exact nI_eq (b := 0) (by have := dif_lt (S := b) (b := S) hb; omega) (by omega)
theorem rem_or {b p : Nat} (hb : b < 256) (h : b.testBit p = true) : difN b (2 ^ p) ||| 2 ^ p = b := by
  apply Nat.eq_of_testBit_eq
  intro i
  rw [or_bit, dif_bit hb, Nat.testBit_two_pow]
  by_cases e : p = i
  · subst e; simp [h]
  · simp [e]
theorem rem_bit {b p : Nat} (hb : b < 256) : (difN b (2 ^ p)).testBit p = false := by
  rw [dif_bit hb, Nat.testBit_two_pow, decide_eq_true rfl, Bool.not_true, Bool.and_false]
theorem or_rem {b p : Nat} (hb : b < 256) (hp : p < 8) (h : b.testBit p = false) : difN (b ||| 2 ^ p) (2 ^ p) = b := by
  apply Nat.eq_of_testBit_eq
  intro i
  rw [dif_bit (or_lt8 hb hp), or_bit, Nat.testBit_two_pow]
  by_cases e : p = i
  · subst e; simp [h]
  · simp [e]
theorem rem_sub {b p : Nat} (hb : b < 256) : subS (difN b (2 ^ p)) b := fun i hi => by
  rw [dif_bit hb] at hi
  exact (Bool.and_eq_true_iff.mp hi).1
theorem rem_lt {b p : Nat} (hb : b < 256) (h : b.testBit p = true) : difN b (2 ^ p) < b := by
  have h1 := subS_le (rem_sub (p := p) hb)
  have h2 : difN b (2 ^ p) ≠ b := fun e => by have := rem_bit (p := p) hb; rw [e, h] at this; cases this
  omega
theorem sub_tr {a b c : Nat} (h : subS a b) (h2 : subS b c) : subS a c := fun p hp => h2 p (h p hp)
theorem pow_lt256 {p : Nat} (hp : p < 8) : 2 ^ p < 256 := show 2 ^ p < 2 ^ 8 from Nat.pow_lt_pow_right (by omega) hp
theorem rem_I {b p : Nat} (hb : b < 256) (hp : p < 8) : nI b &&& (((1 : Int32) <<< (nI p &&& 31)) ^^^ (-1 : Int32)) = nI (difN b (2 ^ p)) := by
  rw [bitI (by omega), dif_I hb (pow_lt256 hp)]
theorem or_I {b p : Nat} (hp : p < 8) : nI b ||| ((1 : Int32) <<< (nI p &&& 31)) = nI (b ||| 2 ^ p) := by rw [bitI (by omega), fa_or]
section OD
variable {d : Nat} {h : PH} {m : Nat} {σ : WS}
theorem v_massOfSet {s : Nat} (hs : s < 256) (hM : ModH h m) (hB : MB h m σ) : ∀ n j, σ.1.length - j = n → j ≤ σ.1.length → J mX8_massOfSet (d + 1) 4 [some (.ref m), some (.int (nI s)), some (.int (nI (sumN (fun p => if s.testBit p then massP (pg σ.1 p) else 0) j))), some (.int (nI j))] [] h (some (.int (nI (massS σ.1 s)))) h := by
  have n8 := hB.n8
  intro n
  induction n with
  | zero =>
    intro j hj hl
    have : j = σ.1.length := by omega
    subst this
    exact k_X8_massOfSet_4 hM.g (fun _ => k_X8_massOfSet_39) (fun q => absurd (by rw [hB.n]; exact nI_le (by omega) (by omega)) q)
  | succ n ih =>
    intro j hj hl
    have hjl : j < σ.1.length := by omega
    have nx := ih (j + 1) (by omega) (by omega)
    have es : sumN (fun p => if s.testBit p then massP (pg σ.1 p) else 0) (j + 1) = sumN (fun p => if s.testBit p then massP (pg σ.1 p) else 0) j + (if s.testBit j = true then massP (pg σ.1 j) else 0) := rfl
    rw [es] at nx
    have sb := shr1_iff (s := s) (p := j) hs (by omega)
    refine k_X8_massOfSet_4 hM.g (fun q => absurd q (by rw [hB.n]; exact nI_ge hjl (by omega))) (fun _ => k_X8_massOfSet_12 (fun q => ?_) (fun q => ?_))
    · rw [sb] at q
      rw [if_neg q] at nx
      refine k_X8_massOfSet_30 (k_X8_massOfSet_31 ?_)
      rw [show (0 : Int32) = nI 0 from rfl, nI_add, nI_1]
      exact nx
    · rw [sb] at q
      rw [if_pos q] at nx
      refine k_X8_massOfSet_22 (u_massOf hM hB hjl) (Or.inl rfl) hM.g (k_X8_massOfSet_31 ?_)
      rw [nI_add, nI_1]
      exact nx
theorem u_massOfSet {s : Nat} (hs : s < 256) (hM : ModH h m) (hB : MB h m σ) : JMt mX8_massOfSet (some .int) (d + 1) [.ref m, .int (nI s)] h (some (.int (nI (massS σ.1 s)))) h :=
  jm mi_X8_massOfSet (Nat.le_of_ble_eq_true rfl) ⟨.int, rfl, rfl⟩ rfl (k_X8_massOfSet_0 (v_massOfSet hs hM hB _ 0 rfl (Nat.zero_le _)))
theorem v_tallOfSet {s : Nat} (hs : s < 256) (hM : ModH h m) (hB : MB h m σ) : ∀ n j, σ.1.length - j = n → j ≤ σ.1.length → J mX8_tallnessOfSet (d + 1) 4 [some (.ref m), some (.int (nI s)), some (.int (nI (sumN (fun p => if s.testBit p then tallP (pg σ.1 p) else 0) j))), some (.int (nI j))] [] h (some (.int (nI (tallS σ.1 s)))) h := by
  have n8 := hB.n8
  intro n
  induction n with
  | zero =>
    intro j hj hl
    have : j = σ.1.length := by omega
    subst this
    exact k_X8_tallnessOfSet_4 hM.g (fun _ => k_X8_tallnessOfSet_39) (fun q => absurd (by rw [hB.n]; exact nI_le (by omega) (by omega)) q)
  | succ n ih =>
    intro j hj hl
    have hjl : j < σ.1.length := by omega
    have nx := ih (j + 1) (by omega) (by omega)
    have es : sumN (fun p => if s.testBit p then tallP (pg σ.1 p) else 0) (j + 1) = sumN (fun p => if s.testBit p then tallP (pg σ.1 p) else 0) j + (if s.testBit j = true then tallP (pg σ.1 j) else 0) := rfl
    rw [es] at nx
    have sb := shr1_iff (s := s) (p := j) hs (by omega)
    refine k_X8_tallnessOfSet_4 hM.g (fun q => absurd q (by rw [hB.n]; exact nI_ge hjl (by omega))) (fun _ => k_X8_tallnessOfSet_12 (fun q => ?_) (fun q => ?_))
    · rw [sb] at q
      rw [if_neg q] at nx
      refine k_X8_tallnessOfSet_30 (k_X8_tallnessOfSet_31 ?_)
      rw [show (0 : Int32) = nI 0 from rfl, nI_add, nI_1]
      exact nx
    · rw [sb] at q
      rw [if_pos q] at nx
      refine k_X8_tallnessOfSet_22 (u_tallness hM hB hjl) (Or.inl rfl) hM.g (k_X8_tallnessOfSet_31 ?_)
      rw [nI_add, nI_1]
      exact nx
theorem u_tallOfSet {s : Nat} (hs : s < 256) (hM : ModH h m) (hB : MB h m σ) : JMt mX8_tallnessOfSet (some .int) (d + 1) [.ref m, .int (nI s)] h (some (.int (nI (tallS σ.1 s)))) h :=
  jm mi_X8_tallnessOfSet (Nat.le_of_ble_eq_true rfl) ⟨.int, rfl, rfl⟩ rfl (k_X8_tallnessOfSet_0 (v_tallOfSet hs hM hB _ 0 rfl (Nat.zero_le _)))
theorem mass_rem {P : List Pers} {S b p : Nat} (hS : S < 256) (hp : p < P.length) (h1 : S.testBit p = true) (h2 : b.testBit p = false) : massS P (difN (difN S b) (2 ^ p)) = massS P (difN S b) - massP (pg P p) := by
  have hd := dif_lt (b := b) hS
  have hb : (difN S b).testBit p = true := by rw [dif_bit hS, h1, h2]; rfl
  have := massS_or (P := P) (b := difN (difN S b) (2 ^ p)) hp (rem_bit hd)
  rw [rem_or hd hb] at this
  omega
theorem u_holds {S b p : Nat} (hS : S < 256) (hb : b < 256) (hp : p < σ.1.length) (h1 : S.testBit p = true) (h2 : b.testBit p = false) (hM : ModH h m) (hB : MB h m σ) : JMt mX8_holds_ (some .boolean) (d + 2) [.ref m, .int (nI S), .int (nI b), .int (nI p)] h (some (.int (bI (okS σ.1 σ.2.2.1 S b p)))) h := by
  have n8 := hB.n8
  have ok := hB.ok
  have hd := dif_lt (b := b) hS
  have hn1 := (pg_ok ok p).2.2.2.2
  have hb1 := bearP_le (pg_ok ok p)
  have hms := massS_le ok n8 (difN S b)
  have hts := tallS_le ok n8 b
  have hmu : tallS σ.1 b * σ.2.2.1 ≤ 48 * 10 := Nat.mul_le_mul hts hB.w10
  have e1 : (nI S &&& (nI b ^^^ (-1 : Int32))) &&& (((1 : Int32) <<< (nI p &&& 31)) ^^^ (-1 : Int32)) = nI (difN (difN S b) (2 ^ p)) := by rw [dif_I hS hb, rem_I hd (by omega)]
  have hm := u_massOfSet (d := d) (dif_lt (b := 2 ^ p) hd) hM hB
  rw [mass_rem hS hp h1 h2] at hm
  have hok : okS σ.1 σ.2.2.1 S b p = (decide (massS σ.1 (difN S b) - massP (pg σ.1 p) ≤ bearP (pg σ.1 p)) && decide (tallS σ.1 b * σ.2.2.1 / 4 ≤ (pg σ.1 p).2.2.2.2)) := by
    unfold okS
    rw [decide_eq_true hp, h1, h2]
    rfl
  have e3 : nI (tallS σ.1 b) * hI h m 9 / (4 : Int32) = nI (tallS σ.1 b * σ.2.2.1 / 4) := by rw [hB.wi, pk_mul, show (4 : Int32) = nI 4 from rfl, pk_div (by omega) (by omega) (by omega)]
  have e4 : hI h (m + 21) (nI p).toNatClampNeg = nI (pg σ.1 p).2.2.2.2 := by rw [nI_clamp (by omega)]; exact hB.ne hp
  have no : okS σ.1 σ.2.2.1 S b p = false → ∀ v : Int32, J mX8_holds_ (d + 2) 52 [some (.ref m), some (.int (nI S)), some (.int (nI b)), some (.int (nI p)), some (.int v)] [] h (some (.int (bI (okS σ.1 σ.2.2.1 S b p)))) h := fun e v => by rw [e]; exact k_X8_holds__52 k_X8_holds__53
  refine jm mi_X8_holds_ (Nat.le_of_ble_eq_true rfl) rB rfl (k_X8_holds__0 (by rw [e1]; exact hm) (Or.inl rfl) hM.g (u_bears hM hB hp) (Or.inl rfl) hM.g (fun q => no ?_ _) (fun q => k_X8_holds__27 (u_tallOfSet hb hM hB) (Or.inl rfl) hM.g hM.g (by decide) hM.r18 hM.g18 (vp_in_nI (by omega) (by omega)) (fun q2 => no ?_ _) (fun q2 => ?_)))
  · rw [nI_ltI (by omega) (by omega)] at q
    rw [hok, decide_eq_false (by omega), Bool.false_and]
  · rw [e3, e4, nI_ltI (by omega) (by omega)] at q2
    rw [hok, decide_eq_false (p := _ ≤ (pg σ.1 p).2.2.2.2) (by omega), Bool.and_false]
  · rw [nI_ltI (by omega) (by omega)] at q
    rw [e3, e4, nI_ltI (by omega) (by omega)] at q2
    rw [hok, decide_eq_true (by omega), decide_eq_true (by omega)]
    exact k_X8_holds__48 k_X8_holds__53
/-- the row of ways, from b on -/
def WayS (h : PH) (c n S : Nat) (ok : Nat → Nat → Bool) (b : Nat) : Prop := ∀ x, b ≤ x → x ≤ S → subS x S → hI h c x = nI (ways n S ok x)
theorem v_waysIn {S b : Nat} {ok : Nat → Nat → Bool} (eok : ok = okS σ.1 σ.2.2.1 S) (hS : S < 2 ^ σ.1.length) (hbS : b < S) (hsub : subS b S) (hk : stepsOK σ.1.length S ok) : ∀ n j (h : PH), σ.1.length - j = n → j ≤ σ.1.length → ModH h m → MB h m σ → WayS h (m + 24) σ.1.length S ok (b + 1) → hI h (m + 24) b = nI (sumN (fun p => if ok b p then ways σ.1.length S ok (b ||| 2 ^ p) else 0) j) →
    ∃ h1, (∀ o h', J mX8_findOrders (d + 3) 104 [some (.ref m), some (.int (nI S)), some (.int (nI b)), none, none] [] h1 o h' → J mX8_findOrders (d + 3) 32 [some (.ref m), some (.int (nI S)), some (.int (nI b)), some (.int (nI j)), none] [] h o h') ∧ Upf (fun i _ => i = m + 24) h h1 ∧ WayS h1 (m + 24) σ.1.length S ok b := by
  intro n
  induction n with
  | zero =>
    intro j h hj hl hM hB hw hb
    have n8 := hB.n8
    have : j = σ.1.length := by omega
    subst this
    refine ⟨h, fun o h' kk => k_X8_findOrders_32 hM.g (fun _ => kk) (fun q => absurd (by rw [hB.n]; exact nI_le (by omega) (by omega)) q), Upf.rf, fun x h1 h2 h3 => ?_⟩
    by_cases e : x = b
    · subst e
      rw [hb, ways_eq hk x, if_neg (by omega), Nat.zero_add]
    · exact hw x (by omega) h2 h3
  | succ n ih =>
    intro j h hj hl hM hB hw hb
    have n8 := hB.n8
    have h256 := pow_le8 n8
    have hjl : j < σ.1.length := by omega
    have cb : (nI b).toNatClampNeg = b := nI_clamp (by omega)
    have hdb := dif_bit (S := S) (b := b) (i := j) (by omega)
    have sb := shr1_iff (s := difN S b) (p := j) (dif_lt (by omega)) (by omega)
    rw [hdb] at sb
    have es : sumN (fun p => if ok b p then ways σ.1.length S ok (b ||| 2 ^ p) else 0) (j + 1) = sumN (fun p => if ok b p then ways σ.1.length S ok (b ||| 2 ^ p) else 0) j + (if ok b j = true then ways σ.1.length S ok (b ||| 2 ^ j) else 0) := rfl
    -- what is added
    have add : ∀ v : Nat, v = (if ok b j = true then ways σ.1.length S ok (b ||| 2 ^ j) else 0) → ∃ h1, (∀ o h', J mX8_findOrders (d + 3) 104 [some (.ref m), some (.int (nI S)), some (.int (nI b)), none, none] [] h1 o h' → ∀ a4 : Int32, J mX8_findOrders (d + 3) 96 [some (.ref m), some (.int (nI S)), some (.int (nI b)), some (.int (nI j)), some (.int a4)] [.int (nI v), .int (hI h (m + 24) (nI b).toNatClampNeg), .int (nI b), .ref (m + 24)] h o h') ∧ Upf (fun i _ => i = m + 24) h h1 ∧ WayS h1 (m + 24) σ.1.length S ok b := fun v ev => by
      have U : Upf (fun i _ => i = m + 24) h (setI h (m + 24) b (nI (sumN (fun p => if ok b p then ways σ.1.length S ok (b ||| 2 ^ p) else 0) (j + 1)))) := Upf.set rfl
      obtain ⟨h1, b1, b2, b3⟩ := ih (j + 1) _ (by omega) (by omega) (hM.keep U) (hB.keep U (fun i k q => by unfold fV at q; omega)) (fun x h1 h2 h3 => by rw [hI_setI, if_neg (by omega)]; exact hw x h1 h2 h3) (by rw [hI_setI, if_pos ⟨rfl, rfl⟩])
      refine ⟨h1, fun o h' kk a4 => k_X8_findOrders_96 hM.g31 (vp_in_nI (by omega) (by omega)) ?_, U.tr b2, b3⟩
      rw [cb, hb, nI_add, nI_1, ev, ← es]
      exact b1 o h' kk
    have ent : ∀ {o : Option Value} {h' : PH}, (¬ (S.testBit j && !b.testBit j) = true → J mX8_findOrders (d + 3) 57 [some (.ref m), some (.int (nI S)), some (.int (nI b)), some (.int (nI j)), none] [] h o h') → ((S.testBit j && !b.testBit j) = true → J mX8_findOrders (d + 3) 53 [some (.ref m), some (.int (nI S)), some (.int (nI b)), some (.int (nI j)), none] [] h o h') → J mX8_findOrders (d + 3) 32 [some (.ref m), some (.int (nI S)), some (.int (nI b)), some (.int (nI j)), none] [] h o h' := fun k1 k2 => k_X8_findOrders_32 hM.g (fun q => absurd q (by rw [hB.n]; exact nI_ge hjl (by omega))) (fun _ => k_X8_findOrders_40 (fun q => k1 (fun z => q (by rw [dif_I (by omega) (by omega)]; exact sb.mpr z))) (fun q => k2 (sb.mp (by rw [dif_I (by omega) (by omega)] at q; exact q))))
    by_cases hbit : (S.testBit j && !b.testBit j) = true
    · obtain ⟨t1, t2⟩ := Bool.and_eq_true_iff.mp hbit
      have t2 : b.testBit j = false := by simpa using t2
      have hh := u_holds (d := d) (S := S) (b := b) (p := j) (by omega) (by omega) hjl t1 t2 hM hB
      rw [← eok] at hh
      cases hok : ok b j with
      | false =>
        rw [hok] at hh
        obtain ⟨h1, a1, a2, a3⟩ := add 0 (by rw [hok]; rfl)
        exact ⟨h1, fun o h' kk => ent (fun z => absurd hbit z) (fun _ => k_X8_findOrders_53 (k_X8_findOrders_58 hM.g hM.r31 hM.g31 (vp_in_nI (by omega) (by omega)) (fun z => absurd z (by decide)) (fun _ => k_X8_findOrders_72 hh (Or.inl rfl) hM.g (fun _ => k_X8_findOrders_95 (a1 o h' kk _)) (fun z => absurd rfl z)))), a2, a3⟩
      | true =>
        rw [hok] at hh
        obtain ⟨h1, a1, a2, a3⟩ := add (ways σ.1.length S ok (b ||| 2 ^ j)) (by rw [hok]; rfl)
        have hor := or_lt8 (b := b) (p := j) (by omega) (by omega)
        have hsu := subS_or hsub t1
        have hlt := lt_or t2
        refine ⟨h1, fun o h' kk => ent (fun z => absurd hbit z) (fun _ => k_X8_findOrders_53 (k_X8_findOrders_58 hM.g hM.r31 hM.g31 (vp_in_nI (by omega) (by omega)) (fun z => absurd z (by decide)) (fun _ => k_X8_findOrders_72 hh (Or.inl rfl) hM.g (fun z => absurd z (by decide)) (fun _ => k_X8_findOrders_82 hM.g hM.r31 hM.g31 (by rw [or_I (by omega)]; exact (vp_in_nI (by omega) (by omega))) ?_)))), a2, a3⟩
        rw [or_I (by omega), nI_clamp (n := b ||| 2 ^ j) (by omega), hw _ (by omega) (subS_le hsu) hsu]
        exact a1 o h' kk _
    · have hno : ok b j = false := by
        rw [← Bool.not_eq_true]
        intro z
        obtain ⟨z1, z2⟩ := hk.2.2 b j z
        exact hbit (by rw [z1, z2]; rfl)
      obtain ⟨h1, a1, a2, a3⟩ := add 0 (by rw [hno]; rfl)
      exact ⟨h1, fun o h' kk => ent (fun _ => k_X8_findOrders_57 (k_X8_findOrders_58 hM.g hM.r31 hM.g31 (vp_in_nI (by omega) (by omega)) (fun _ => k_X8_findOrders_95 (a1 o h' kk _)) (fun z => absurd rfl z))) (fun z => absurd z hbit), a2, a3⟩
theorem v_ways {S : Nat} {ok : Nat → Nat → Bool} (eok : ok = okS σ.1 σ.2.2.1 S) (hS : S < 2 ^ σ.1.length) (hk : stepsOK σ.1.length S ok) : ∀ b (h : PH), b ≤ S → ModH h m → MB h m σ → WayS h (m + 24) σ.1.length S ok b →
    ∃ h1, J mX8_findOrders (d + 3) 11 [some (.ref m), some (.int (nI S)), some (.int (sI ((b : Int) - 1))), none, none] [] h (some (.int (nI (ways σ.1.length S ok 0)))) h1 ∧ Upf (fun i _ => i = m + 24) h h1 ∧ WayS h1 (m + 24) σ.1.length S ok 0 := by
  intro b
  induction b with
  | zero =>
    intro h hb hM hB hw
    have kk := k_X8_findOrders_110 (d := d + 3) (h := h) (a1 := nI S) (a2 := sI (((0 : Nat) : Int) - 1)) hM.g hM.r31 hM.g31 (show vp_in (nI 0) 256 from (vp_in_nI (by omega) (by omega)))
    rw [show (0 : Int32).toNatClampNeg = 0 from rfl, hw 0 (Nat.le_refl _) (Nat.zero_le _) subS_0] at kk
    exact ⟨h, k_X8_findOrders_11 (fun _ => kk) (fun z => absurd (by decide) z), Upf.rf, hw⟩
  | succ b ih =>
    intro h hb hM hB hw
    have n8 := hB.n8
    have h256 := pow_le8 n8
    have es : sI (((b + 1 : Nat) : Int) - 1) = nI b := by rw [nI_sI]; congr 1; omega
    rw [es]
    have nxt : ∀ h2 : PH, Upf (fun i _ => i = m + 24) h h2 → WayS h2 (m + 24) σ.1.length S ok b → ∃ h1, J mX8_findOrders (d + 3) 104 [some (.ref m), some (.int (nI S)), some (.int (nI b)), none, none] [] h2 (some (.int (nI (ways σ.1.length S ok 0)))) h1 ∧ Upf (fun i _ => i = m + 24) h h1 ∧ WayS h1 (m + 24) σ.1.length S ok 0 := fun h2 U2 hw2 => by
      obtain ⟨h1, b1, b2, b3⟩ := ih h2 (by omega) (hM.keep U2) (hB.keep U2 (fun i k q => by unfold fV at q; omega)) hw2
      refine ⟨h1, k_X8_findOrders_104 ?_, U2.tr b2, b3⟩
      rw [dec_I]
      exact b1
    by_cases hsub : subS b S
    · have U : Upf (fun i _ => i = m + 24) h (setI h (m + 24) (nI b).toNatClampNeg 0) := Upf.set rfl
      have cb : (nI b).toNatClampNeg = b := nI_clamp (by omega)
      obtain ⟨h2, a1, a2, a3⟩ := v_waysIn (d := d) (m := m) eok hS (by omega) hsub hk _ 0 (setI h (m + 24) (nI b).toNatClampNeg 0) rfl (Nat.zero_le _) (hM.keep U) (hB.keep U (fun i k q => by unfold fV at q; omega)) (fun x h1 h2 h3 => by rw [cb, hI_setI, if_neg (by omega)]; exact hw x h1 h2 h3) (by rw [cb, hI_setI, if_pos ⟨rfl, rfl⟩]; rfl)
      obtain ⟨h1, b1, b2, b3⟩ := nxt h2 (U.tr a2) a3
      exact ⟨h1, k_X8_findOrders_11 (fun z => absurd z (nI_lt0 (by omega))) (fun _ => k_X8_findOrders_15 (fun z => absurd ((sub_I (by omega) (by omega)).mpr hsub) z) (fun _ => k_X8_findOrders_23 hM.g hM.r31 hM.g31 (vp_in_nI (by omega) (by omega)) (a1 _ _ b1))), b2, b3⟩
    · obtain ⟨h1, b1, b2, b3⟩ := nxt h Upf.rf (fun x h1 h2 h3 => by
        by_cases e : x = b
        · subst e; exact absurd h3 hsub
        · exact hw x (by omega) h2 h3)
      exact ⟨h1, k_X8_findOrders_11 (fun z => absurd z (nI_lt0 (by omega))) (fun _ => k_X8_findOrders_15 (fun _ => b1) (fun z => absurd ((sub_I (by omega) (by omega)).mp z) hsub)), b2, b3⟩
theorem u_findOrders {S : Nat} (hS : S < 2 ^ σ.1.length) (hM : ModH h m) (hB : MB h m σ) : ∃ h1, JMt mX8_findOrders (some .int) (d + 3) [.ref m, .int (nI S)] h (some (.int (nI (ways σ.1.length S (okS σ.1 σ.2.2.1 S) 0)))) h1 ∧ Upf (fun i _ => i = m + 24) h h1 ∧ WayS h1 (m + 24) σ.1.length S (okS σ.1 σ.2.2.1 S) 0 := by
  have n8 := hB.n8
  have h256 := pow_le8 n8
  have hk := okS_steps (P := σ.1) (w := σ.2.2.1) n8 hS
  have cs : (nI S).toNatClampNeg = S := nI_clamp (by omega)
  have U : Upf (fun i _ => i = m + 24) h (setI h (m + 24) (nI S).toNatClampNeg 1) := Upf.set rfl
  obtain ⟨h1, a1, a2, a3⟩ := v_ways (d := d) (m := m) (σ := σ) (S := S) rfl hS hk S (setI h (m + 24) (nI S).toNatClampNeg 1) (Nat.le_refl _) (hM.keep U) (hB.keep U (fun i k q => by unfold fV at q; omega)) (fun x h1 h2 h3 => by
    have : x = S := by omega
    subst this
    rw [cs, hI_setI, if_pos ⟨rfl, rfl⟩, ways_S hk]
    rfl)
  refine ⟨h1, jm mi_X8_findOrders (Nat.le_of_ble_eq_true rfl) ⟨.int, rfl, rfl⟩ rfl (k_X8_findOrders_0 hM.g hM.r31 hM.g31 (vp_in_nI (by omega) (by omega)) ?_), U.tr a2, a3⟩
  rw [show nI S - (1 : Int32) = sI ((S : Int) - 1) by rw [show (1 : Int32) = nI 1 from rfl, nI_nsub]; rfl]
  exact a1
theorem u_mayCome {S b p : Nat} (hS : S < 2 ^ σ.1.length) (hsub : subS b S) (hp : p < σ.1.length) (hM : ModH h m) (hB : MB h m σ) (hw : WayS h (m + 24) σ.1.length S (okS σ.1 σ.2.2.1 S) 0) : JMt mX8_mayCome (some .boolean) (d + 3) [.ref m, .int (nI S), .int (nI b), .int (nI p)] h (some (.int (bI (leadB σ.1.length S (okS σ.1 σ.2.2.1 S) b p)))) h := by
  have n8 := hB.n8
  have h256 := pow_le8 n8
  have hbS := subS_le hsub
  have hk := okS_steps (P := σ.1) (w := σ.2.2.1) n8 hS
  have hdb := dif_bit (S := S) (b := b) (i := p) (by omega)
  have sb := shr1_iff (s := difN S b) (p := p) (dif_lt (by omega)) (by omega)
  rw [hdb] at sb
  have no : leadB σ.1.length S (okS σ.1 σ.2.2.1 S) b p = false → J mX8_mayCome (d + 3) 40 [some (.ref m), some (.int (nI S)), some (.int (nI b)), some (.int (nI p))] [] h (some (.int (bI (leadB σ.1.length S (okS σ.1 σ.2.2.1 S) b p)))) h := fun e => by rw [e]; exact k_X8_mayCome_40 k_X8_mayCome_41
  refine jm mi_X8_mayCome (Nat.le_of_ble_eq_true rfl) rB rfl (k_X8_mayCome_0 (fun q => no ?_) (fun q => ?_))
  · rw [dif_I (by omega) (by omega), sb] at q
    unfold leadB
    rw [show okS σ.1 σ.2.2.1 S b p = false by
      rw [← Bool.not_eq_true]
      intro z
      obtain ⟨z1, z2⟩ := hk.2.2 b p z
      exact q (by rw [z1, z2]; rfl), Bool.false_and]
  · rw [dif_I (by omega) (by omega), sb] at q
    obtain ⟨t1, t2⟩ := Bool.and_eq_true_iff.mp q
    have t2 : b.testBit p = false := by simpa using t2
    have hh := u_holds (d := d) (S := S) (b := b) (p := p) (by omega) (by omega) hp t1 t2 hM hB
    cases hok : okS σ.1 σ.2.2.1 S b p with
    | false =>
      rw [hok] at hh
      refine k_X8_mayCome_13 hh (Or.inl rfl) hM.g (fun _ => no (by unfold leadB; rw [hok]; rfl)) (fun z => absurd rfl z)
    | true =>
      rw [hok] at hh
      have hor := or_lt8 (b := b) (p := p) (by omega) (by omega)
      have hsu := subS_or hsub t1
      have hwl := ways_lt hk (b ||| 2 ^ p)
      have e : hI h (m + 24) (nI b ||| ((1 : Int32) <<< (nI p &&& 31))).toNatClampNeg = nI (ways σ.1.length S (okS σ.1 σ.2.2.1 S) (b ||| 2 ^ p)) := by
        rw [or_I (by omega), nI_clamp (n := b ||| 2 ^ p) (by omega), hw _ (Nat.zero_le _) (subS_le hsu) hsu]
      refine k_X8_mayCome_13 hh (Or.inl rfl) hM.g (fun z => absurd z (by decide)) (fun _ => k_X8_mayCome_23 hM.g hM.r31 hM.g31 (by rw [or_I (by omega)]; exact (vp_in_nI (by omega) (by omega))) (fun z => no ?_) (fun z => ?_))
      · rw [e, show (0 : Int32) = nI 0 from rfl, nI_leI (by omega) (by omega)] at z
        unfold leadB
        rw [hok, decide_eq_false (by omega)]
        rfl
      · rw [e, show (0 : Int32) = nI 0 from rfl, nI_leI (by omega) (by omega)] at z
        have : leadB σ.1.length S (okS σ.1 σ.2.2.1 S) b p = true := by
          unfold leadB
          rw [hok, decide_eq_true (by omega)]
          rfl
        rw [this]
        exact k_X8_mayCome_36 k_X8_mayCome_41
end OD
