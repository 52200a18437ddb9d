/-! the reference: who may be on top; orders, ends, the highest, gladness -/
noncomputable def rcB (ok : Nat → Nat → Bool) (b : Nat) : Bool := @decide (rch ok 0 b) (Classical.propDecidable _)
theorem rcB_iff {ok : Nat → Nat → Bool} {b : Nat} : rcB ok b = true ↔ rch ok 0 b := @decide_eq_true_iff _ (Classical.propDecidable _)
noncomputable def cmB (ok : Nat → Nat → Bool) (b p : Nat) : Bool := b.testBit p && (rcB ok (difN b (2 ^ p)) && ok (difN b (2 ^ p)) p)
def orB (f : Nat → Bool) : Nat → Bool
  | 0 => false
  | n + 1 => orB f n || f n
theorem orB_iff {f : Nat → Bool} : ∀ n, orB f n = true ↔ ∃ p, p < n ∧ f p = true
  | 0 => ⟨fun h => Bool.noConfusion h, fun h => h.elim fun p q => absurd q.1 (Nat.not_lt_zero p)⟩
  | n + 1 => by
    show (orB f n || f n) = true ↔ _
    rw [Bool.or_eq_true, orB_iff n]
    constructor
    · rintro (⟨p, h1, h2⟩ | h)
      · exact ⟨p, by omega, h2⟩
      · exact ⟨n, by omega, h⟩
    · rintro ⟨p, h1, h2⟩
      by_cases e : p = n
      · subst e; exact Or.inr h2
      · exact Or.inl ⟨p, by omega, h2⟩
theorem rcB_eq {n S b : Nat} {ok : Nat → Nat → Bool} (hk : stepsOK n S ok) (hb : b < 256) : rcB ok b = (decide (b = 0) || orB (cmB ok b) n) := by
  rw [Bool.eq_iff_iff, rcB_iff, Bool.or_eq_true, decide_eq_true_eq, orB_iff]
  constructor
  · intro h
    rcases rch_tl h with e | ⟨p, e, h1, h2, h3⟩
    · exact Or.inl e
    · obtain ⟨z1, z2⟩ := hk.2.2 e p h2
      have hp := bit_lt hk.2.1 z1
      have n8 := hk.1
      have he : e < 256 := by
        have : e ≤ e ||| 2 ^ p := Nat.left_le_or
        omega
      have hd : difN b (2 ^ p) = e := by rw [h3]; exact or_rem he (by omega) z2
      refine Or.inr ⟨p, hp, ?_⟩
      unfold cmB
      rw [hd, h2, rcB_iff.mpr h1, h3, or_bit, decide_eq_true rfl, Bool.or_true]
      rfl
  · rintro (h | ⟨p, h1, h2⟩)
    · rw [h]; exact rch_rf
    · obtain ⟨h3, h4⟩ := Bool.and_eq_true_iff.mp h2
      obtain ⟨h5, h6⟩ := Bool.and_eq_true_iff.mp h4
      have := rch_sn (rcB_iff.mp h5) h6
      rw [rem_or hb h3] at this
      exact this
theorem lasts_cm {n S : Nat} {ok : Nat → Nat → Bool} (hk : stepsOK n S ok) : mkN (cmB ok S) n = lasts n S ok 0 := by
  have h256 := pow_le8 hk.1
  have hS := hk.2.1
  apply Nat.eq_of_testBit_eq
  intro q
  rw [Bool.eq_iff_iff, mkN_bit, lasts_bit hk (cntR n S 0) 0 (Nat.le_refl _)]
  constructor
  · rintro ⟨h1, h2⟩
    obtain ⟨h3, h4⟩ := Bool.and_eq_true_iff.mp h2
    obtain ⟨h5, h6⟩ := Bool.and_eq_true_iff.mp h4
    exact ⟨difN S (2 ^ q), rcB_iff.mp h5, h6, rem_or (by omega) h3⟩
  · rintro ⟨e, h1, h2, h3⟩
    obtain ⟨z1, z2⟩ := hk.2.2 e q h2
    have hq := bit_lt hk.2.1 z1
    have n8 := hk.1
    have he : e < 256 := by
      have : e ≤ e ||| 2 ^ q := Nat.left_le_or
      omega
    have hd : difN S (2 ^ q) = e := by rw [← h3]; exact or_rem he (by omega) z2
    refine ⟨hq, ?_⟩
    unfold cmB
    rw [hd, h2, rcB_iff.mpr h1, z1]
    rfl
/-- the row of those below who come about, up to b -/
def CmeS (h : PH) (c S : Nat) (ok : Nat → Nat → Bool) (b : Nat) : Prop := ∀ x, x < b → subS x S → hI h c x = bI (rcB ok x)
section OE
variable {d : Nat} {h : PH} {m : Nat} {σ : WS}
theorem v_topsOfIn {S b : Nat} {ok : Nat → Nat → Bool} (eok : ok = okS σ.1 σ.2.2.1 S) (hS : S < 2 ^ σ.1.length) (hbS : b ≤ S) (hsub : subS b S) (hk : stepsOK σ.1.length S ok) : ∀ n j (h : PH), σ.1.length - j = n → j ≤ σ.1.length → ModH h m → MB h m σ → CmeS h (m + 25) S ok b → hI h (m + 25) b = bI (decide (b = 0) || orB (cmB ok b) j) →
    ∃ h1, (∀ o h', J mX8_topsOf (d + 3) 133 [some (.ref m), some (.int (nI S)), some (.int (nI (if b = S then mkN (cmB ok S) σ.1.length else 0))), some (.int (nI b)), some (.int (nI σ.1.length)), none] [] h1 o h' → J mX8_topsOf (d + 3) 27 [some (.ref m), some (.int (nI S)), some (.int (nI (if b = S then mkN (cmB ok S) j else 0))), some (.int (nI b)), some (.int (nI j)), none] [] h o h') ∧ Upf (fun i _ => i = m + 25) h h1 ∧ CmeS h1 (m + 25) S ok (b + 1) := by
  intro n
  induction n with
  | zero =>
    intro j h hj hl hM hB hc hb
    have n8 := hB.n8
    have h256 := pow_le8 n8
    have : j = σ.1.length := by omega
    subst this
    refine ⟨h, fun o h' kk => k_X8_topsOf_27 hM.g (fun _ => kk) (fun q => absurd (by rw [hB.n]; exact nI_le (by omega) (by omega)) q), Upf.rf, fun x h1 h2 => ?_⟩
    by_cases e : x = b
    · subst e
      rw [hb, rcB_eq hk (by omega)]
    · exact hc x (by omega) h2
  | succ n ih =>
    intro j h hj hl hM hB hc hb
    have n8 := hB.n8
    have h256 := pow_le8 n8
    have hjl : j < σ.1.length := by omega
    have cb : (nI b).toNatClampNeg = b := nI_clamp (by omega)
    have sb := shr1_iff (s := b) (p := j) (by omega) (by omega)
    have es : (decide (b = 0) || orB (cmB ok b) (j + 1)) = ((decide (b = 0) || orB (cmB ok b) j) || cmB ok b j) := by rw [Bool.or_assoc]; rfl
    -- one more
    have fin : ∀ v : Bool, v = cmB ok b j → ∃ h1, (∀ o h', J mX8_topsOf (d + 3) 133 [some (.ref m), some (.int (nI S)), some (.int (nI (if b = S then mkN (cmB ok S) σ.1.length else 0))), some (.int (nI b)), some (.int (nI σ.1.length)), none] [] h1 o h' → J mX8_topsOf (d + 3) 93 [some (.ref m), some (.int (nI S)), some (.int (nI (if b = S then mkN (cmB ok S) j else 0))), some (.int (nI b)), some (.int (nI j)), none] [.int (bI v)] h o h') ∧ Upf (fun i _ => i = m + 25) h h1 ∧ CmeS h1 (m + 25) S ok (b + 1) := fun v ev => by
      have eb : hI h (m + 25) (nI b).toNatClampNeg ||| bI v = bI (decide (b = 0) || orB (cmB ok b) (j + 1)) := by
        rw [cb, hb, es, ← ev]
        cases (decide (b = 0) || orB (cmB ok b) j) <;> cases v <;> decide
      have U : Upf (fun i _ => i = m + 25) h (setI h (m + 25) (nI b).toNatClampNeg (hI h (m + 25) (nI b).toNatClampNeg ||| bI v)) := Upf.set rfl
      have hM2 := hM.keep U
      obtain ⟨h1, b1, b2, b3⟩ := ih (j + 1) (setI h (m + 25) (nI b).toNatClampNeg (hI h (m + 25) (nI b).toNatClampNeg ||| bI v)) (by omega) (by omega) hM2 (hB.keep U (fun i k q => by unfold fV at q; omega)) (fun x h1 h2 => by rw [cb, hI_setI, if_neg (by omega)]; exact hc x h1 h2) (by rw [← eb, cb, hI_setI, if_pos ⟨rfl, rfl⟩])
      refine ⟨h1, fun o h' kk => ?_, U.tr b2, b3⟩
      have go := b1 o h' kk
      have z01 : (hI h (m + 25) (nI b).toNatClampNeg ||| bI v) = 0 ∨ (hI h (m + 25) (nI b).toNatClampNeg ||| bI v) = 1 := by
        rw [eb]
        cases (decide (b = 0) || orB (cmB ok b) (j + 1))
        · exact Or.inl rfl
        · exact Or.inr rfl
      refine k_X8_topsOf_93 hM.g hM.r32 hM.g32 (vp_in_nI (by omega) (by omega)) (vp_in_nI (by omega) (by omega)) z01 (fun q => ?_) (fun q => ?_)
      · have q := bI_0.mp q
        have e2 : (if b = S then mkN (cmB ok S) (j + 1) else 0) = (if b = S then mkN (cmB ok S) j else 0) := by
          by_cases e : b = S
          · subst e; rw [if_pos rfl, if_pos rfl, mkN_succ, if_neg (by rw [← ev, q]; decide)]
          · rw [if_neg e, if_neg e]
        rw [e2] at go
        refine k_X8_topsOf_124 (k_X8_topsOf_125 ?_)
        rw [show (0 : Int32) = nI 0 from rfl, fa_or, Nat.or_zero, nI_1]
        exact go
      · have q := bI_n0.mp q
        refine k_X8_topsOf_112 (fun w => ?_) (fun w => ?_)
        · have hne : b ≠ S := fun e => w (by rw [e])
          rw [if_neg hne] at go ⊢
          refine k_X8_topsOf_124 (k_X8_topsOf_125 ?_)
          rw [show (0 : Int32) = nI 0 from rfl, fa_or, Nat.or_zero, nI_1]
          exact go
        · have he : b = S := (nI_eq (by omega) (by omega)).mp w
          have e2 : (if b = S then mkN (cmB ok S) (j + 1) else 0) = (if b = S then mkN (cmB ok S) j else 0) ||| 2 ^ j := by
            subst he; rw [if_pos rfl, if_pos rfl, mkN_succ, if_pos (by rw [← ev, q])]
          rw [e2] at go
          refine k_X8_topsOf_117 (k_X8_topsOf_125 ?_)
          rw [bitI (by omega), fa_or, nI_1]
          exact go
    have ent : ∀ {o : Option Value} {h' : PH}, (¬ b.testBit j = true → J mX8_topsOf (d + 3) 92 [some (.ref m), some (.int (nI S)), some (.int (nI (if b = S then mkN (cmB ok S) j else 0))), some (.int (nI b)), some (.int (nI j)), none] [] h o h') → (b.testBit j = true → J mX8_topsOf (d + 3) 54 [some (.ref m), some (.int (nI S)), some (.int (nI (if b = S then mkN (cmB ok S) j else 0))), some (.int (nI b)), some (.int (nI j)), none] [] h o h') → J mX8_topsOf (d + 3) 27 [some (.ref m), some (.int (nI S)), some (.int (nI (if b = S then mkN (cmB ok S) j else 0))), some (.int (nI b)), some (.int (nI j)), none] [] h o h' := fun k1 k2 => k_X8_topsOf_27 hM.g (fun q => absurd q (by rw [hB.n]; exact nI_ge hjl (by omega))) (fun _ => k_X8_topsOf_36 (fun z => absurd ((sub_I (by omega) (by omega)).mpr hsub) z) (fun _ => k_X8_topsOf_44 (fun q => k1 (fun z => q (sb.mpr z))) (fun q => k2 (sb.mp q))))
    by_cases hbit : b.testBit j = true
    · have hSj := hsub j hbit
      have eR : nI b &&& (((1 : Int32) <<< (nI j &&& 31)) ^^^ (-1 : Int32)) = nI (difN b (2 ^ j)) := rem_I (by omega) (by omega)
      have hlt := rem_lt (b := b) (p := j) (by omega) hbit
      have hsub2 : subS (difN b (2 ^ j)) S := sub_tr (rem_sub (by omega)) hsub
      have hcm := hc (difN b (2 ^ j)) hlt hsub2
      have ecm : cmB ok b j = (rcB ok (difN b (2 ^ j)) && ok (difN b (2 ^ j)) j) := by unfold cmB; rw [hbit, Bool.true_and]
      have hh := u_holds (d := d) (S := S) (b := difN b (2 ^ j)) (p := j) (by omega) (by omega) hjl hSj (rem_bit (by omega)) hM hB
      rw [← eok] at hh
      cases hr : rcB ok (difN b (2 ^ j)) with
      | false =>
        rw [hr] at hcm
        obtain ⟨h1, f1, f2, f3⟩ := fin false (by rw [ecm, hr]; rfl)
        exact ⟨h1, fun o h' kk => ent (fun z => absurd hbit z) (fun _ => k_X8_topsOf_54 hM.g hM.r32 hM.g32 (by rw [eR]; exact (vp_in_nI (by omega) (by omega))) (fun _ => k_X8_topsOf_92 (f1 o h' kk)) (fun z => absurd (by rw [eR, nI_clamp (by omega)]; exact hcm) z)), f2, f3⟩
      | true =>
        rw [hr] at hcm
        cases ho : ok (difN b (2 ^ j)) j with
        | false =>
          rw [ho] at hh
          obtain ⟨h1, f1, f2, f3⟩ := fin false (by rw [ecm, hr, ho]; rfl)
          exact ⟨h1, fun o h' kk => ent (fun z => absurd hbit z) (fun _ => k_X8_topsOf_54 hM.g hM.r32 hM.g32 (by rw [eR]; exact (vp_in_nI (by omega) (by omega))) (fun z => absurd z (by rw [eR, nI_clamp (by omega), hcm]; decide)) (fun _ => k_X8_topsOf_70 (by rw [eR]; exact hh) (Or.inl rfl) hM.g (fun _ => k_X8_topsOf_92 (f1 o h' kk)) (fun z => absurd rfl z))), f2, f3⟩
        | true =>
          rw [ho] at hh
          obtain ⟨h1, f1, f2, f3⟩ := fin true (by rw [ecm, hr, ho]; rfl)
          exact ⟨h1, fun o h' kk => ent (fun z => absurd hbit z) (fun _ => k_X8_topsOf_54 hM.g hM.r32 hM.g32 (by rw [eR]; exact (vp_in_nI (by omega) (by omega))) (fun z => absurd z (by rw [eR, nI_clamp (by omega), hcm]; decide)) (fun _ => k_X8_topsOf_70 (by rw [eR]; exact hh) (Or.inl rfl) hM.g (fun z => absurd z (by decide)) (fun _ => k_X8_topsOf_88 (f1 o h' kk)))), f2, f3⟩
    · obtain ⟨h1, f1, f2, f3⟩ := fin false (by unfold cmB; rw [Bool.not_eq_true] at hbit; rw [hbit, Bool.false_and])
      exact ⟨h1, fun o h' kk => ent (fun _ => k_X8_topsOf_92 (f1 o h' kk)) (fun z => absurd z hbit), f2, f3⟩
theorem v_topsOf {S : Nat} {ok : Nat → Nat → Bool} (eok : ok = okS σ.1 σ.2.2.1 S) (hS : S < 2 ^ σ.1.length) (hk : stepsOK σ.1.length S ok) : ∀ k b (h : PH), S + 1 - b = k → b ≤ S + 1 → ModH h m → MB h m σ → CmeS h (m + 25) S ok b →
    ∃ h1, J mX8_topsOf (d + 3) 4 [some (.ref m), some (.int (nI S)), some (.int (nI (if S < b then mkN (cmB ok S) σ.1.length else 0))), some (.int (nI b)), none, none] [] h (some (.int (nI (mkN (cmB ok S) σ.1.length)))) h1 ∧ Upf (fun i _ => i = m + 25) h h1 := by
  intro k
  induction k with
  | zero =>
    intro b h hkb hb hM hB hc
    have h256 := pow_le8 hB.n8
    have : b = S + 1 := by omega
    subst this
    rw [if_pos (by omega)]
    exact ⟨h, k_X8_topsOf_4 (fun _ => k_X8_topsOf_139) (fun z => absurd (nI_lt (by omega) (by omega)) z), Upf.rf⟩
  | succ k ih =>
    intro b h hkb hb hM hB hc
    have h256 := pow_le8 hB.n8
    have hbS : b ≤ S := by omega
    rw [if_neg (by omega)]
    have cb : (nI b).toNatClampNeg = b := nI_clamp (by omega)
    have c0 : b = 0 ↔ nI b = 0 := (nI_eq (b := 0) (by omega) (by omega)).symm
    have U : ∀ v : Int32, Upf (fun i _ => i = m + 25) h (setI h (m + 25) (nI b).toNatClampNeg v) := fun v => Upf.set rfl
    have nxt : ∀ (h2 : PH) (x : Int32), Upf (fun i _ => i = m + 25) h h2 → CmeS h2 (m + 25) S ok (b + 1) → ∃ h1, J mX8_topsOf (d + 3) 133 [some (.ref m), some (.int (nI S)), some (.int (nI (if b = S then mkN (cmB ok S) σ.1.length else 0))), some (.int (nI b)), some (.int x), none] [] h2 (some (.int (nI (mkN (cmB ok S) σ.1.length)))) h1 ∧ Upf (fun i _ => i = m + 25) h h1 := fun h2 x U2 hc2 => by
      obtain ⟨h1, b1, b2⟩ := ih (b + 1) h2 (by omega) (by omega) (hM.keep U2) (hB.keep U2 (fun i k q => by unfold fV at q; omega)) hc2
      refine ⟨h1, k_X8_topsOf_133 ?_, U2.tr b2⟩
      rw [nI_1, show (if b = S then mkN (cmB ok S) σ.1.length else 0) = (if S < b + 1 then mkN (cmB ok S) σ.1.length else 0) by
        by_cases e : b = S
        · rw [if_pos e, if_pos (by omega)]
        · rw [if_neg e, if_neg (by omega)]]
      exact b1
    have ent : ∀ {o : Option Value} {h' : PH}, J mX8_topsOf (d + 3) 27 [some (.ref m), some (.int (nI S)), some (.int (nI 0)), some (.int (nI b)), some (.int 0), none] [] (setI h (m + 25) (nI b).toNatClampNeg (bI (decide (b = 0)))) o h' → J mX8_topsOf (d + 3) 4 [some (.ref m), some (.int (nI S)), some (.int (nI 0)), some (.int (nI b)), none, none] [] h o h' := fun kk => by
      refine k_X8_topsOf_4 (fun z => absurd z (nI_nlt hbS (by omega))) (fun _ => k_X8_topsOf_9 hM.g hM.r32 (fun z => ?_) (fun z => ?_))
      · rw [decide_eq_false (fun e => z (c0.mp e))] at kk
        exact k_X8_topsOf_22 (k_X8_topsOf_23 hM.g32 (vp_in_nI (by omega) (by omega)) (Or.inl rfl) kk)
      · rw [decide_eq_true (c0.mpr z)] at kk
        exact k_X8_topsOf_18 (k_X8_topsOf_23 hM.g32 (vp_in_nI (by omega) (by omega)) (Or.inr rfl) kk)
    have U0 := U (bI (decide (b = 0)))
    have hM2 := hM.keep U0
    have hB2 := hB.keep U0 (fun i k q => by unfold fV at q; omega)
    have hc0 : CmeS (setI h (m + 25) (nI b).toNatClampNeg (bI (decide (b = 0)))) (m + 25) S ok b := fun x h1 h2 => by rw [cb, hI_setI, if_neg (by omega)]; exact hc x h1 h2
    by_cases hsub : subS b S
    · obtain ⟨h2, a1, a2, a3⟩ := v_topsOfIn (d := d) (m := m) (σ := σ) (S := S) (b := b) eok hS hbS hsub hk _ 0 _ rfl (Nat.zero_le _) hM2 hB2 hc0 (by rw [cb, hI_setI, if_pos ⟨rfl, rfl⟩]; show _ = bI (_ || false); rw [Bool.or_false])
      obtain ⟨h1, b1, b2⟩ := nxt h2 _ (U0.tr a2) a3
      refine ⟨h1, ent ?_, b2⟩
      have := a1 _ _ b1
      rw [show (if b = S then mkN (cmB ok S) 0 else 0) = 0 by split <;> rfl] at this
      exact this
    · have hne : b ≠ S := fun e => hsub (by rw [e]; exact subS_rf)
      obtain ⟨h1, b1, b2⟩ := nxt (setI h (m + 25) (nI b).toNatClampNeg (bI (decide (b = 0)))) 0 U0 (fun x h1 h2 => by
        by_cases e : x = b
        · subst e; exact absurd h2 hsub
        · exact hc0 x (by omega) h2)
      rw [if_neg hne] at b1
      refine ⟨h1, ent ?_, b2⟩
      refine k_X8_topsOf_27 hM2.g (fun _ => b1) (fun _ => k_X8_topsOf_36 (fun _ => b1) (fun z => absurd ((sub_I (by omega) (by omega)).mp z) hsub))
theorem u_topsOf {S : Nat} (hS : S < 2 ^ σ.1.length) (hM : ModH h m) (hB : MB h m σ) : ∃ h1, JMt mX8_topsOf (some .int) (d + 3) [.ref m, .int (nI S)] h (some (.int (nI (lasts σ.1.length S (okS σ.1 σ.2.2.1 S) 0)))) h1 ∧ Upf (fun i _ => i = m + 25) h h1 := by
  have hk := okS_steps (P := σ.1) (w := σ.2.2.1) hB.n8 hS
  obtain ⟨h1, a1, a2⟩ := v_topsOf (d := d) (m := m) (σ := σ) (S := S) rfl hS hk _ 0 h rfl (Nat.zero_le _) hM hB (fun x z => absurd z (Nat.not_lt_zero x))
  rw [if_neg (by omega), lasts_cm hk] at a1
  exact ⟨h1, jm mi_X8_topsOf (Nat.le_of_ble_eq_true rfl) ⟨.int, rfl, rfl⟩ rfl (k_X8_topsOf_0 a1), a2⟩
end OE
section OF
variable {d : Nat} {h : PH} {m : Nat} {ko to : Option Nat} {T : TS}
theorem f24 {m i k : Nat} (q : i = m + 24) : fVS m i k := Or.inr (by unfold fS; omega)
theorem f25 {m i k : Nat} (q : i = m + 25) : fVS m i k := Or.inr (by unfold fS; omega)
theorem k24 {m : Nat} : ∀ i k, fV m i k → ¬ i = m + 24 := fun i k q => by unfold fV at q; omega
theorem k25 {m : Nat} : ∀ i k, fV m i k → ¬ i = m + 25 := fun i k q => by unfold fV at q; omega
theorem v_first {σ : WS} {S b : Nat} {x1 x2 x3 : Int32} (hS : S < 2 ^ σ.1.length) (hsub : subS b S) (hM : ModH h m) (hB : MB h m σ) (hw : WayS h (m + 24) σ.1.length S (okS σ.1 σ.2.2.1 S) 0) : ∀ n j r, σ.1.length - j = n → firstFrom (fun p => leadB σ.1.length S (okS σ.1 σ.2.2.1 S) b p) n j = some r → ∀ {o : Option Value} {h' : PH}, J mX8_orders (d + 4) 90 [some (.ref m), some (.int (nI S)), some (.int x1), some (.int x2), some (.int (nI b)), some (.int (nI r)), some (.int x3)] [] h o h' → J mX8_orders (d + 4) 72 [some (.ref m), some (.int (nI S)), some (.int x1), some (.int x2), some (.int (nI b)), some (.int (nI j)), some (.int x3)] [] h o h' := by
  intro n
  induction n with
  | zero => intro j r hj hr; cases hr
  | succ n ih =>
    intro j r hj hr o h' kk
    have hmc := u_mayCome (d := d) (p := j) hS hsub (by omega) hM hB hw
    unfold firstFrom at hr
    cases hl : leadB σ.1.length S (okS σ.1 σ.2.2.1 S) b j with
    | true =>
      rw [hl] at hmc hr
      rw [if_pos rfl] at hr
      cases hr
      exact k_X8_orders_72 hmc (Or.inl rfl) hM.g (fun _ => kk) (fun z => absurd z (by decide))
    | false =>
      rw [hl] at hmc hr
      rw [if_neg (by decide)] at hr
      refine k_X8_orders_72 hmc (Or.inl rfl) hM.g (fun z => absurd rfl z) (fun _ => k_X8_orders_84 ?_)
      rw [nI_1]
      exact ih (j + 1) r (by omega) hr kk
theorem v_orders {σ : WS} {S i : Nat} {x2 : Int32} (hS : S < 2 ^ σ.1.length) (hM : ModH h m) (hB : MB h m σ) (hw : WayS h (m + 24) σ.1.length S (okS σ.1 σ.2.2.1 S) 0) (hpos : 0 < ways σ.1.length S (okS σ.1 σ.2.2.1 S) 0) (hi : i < popN S) : ∀ n k (v : Int32), i + 1 - k = n → k ≤ i + 1 → (k = i + 1 → v = nI (nxtF σ.1.length S (okS σ.1 σ.2.2.1 S) (grdF σ.1.length S (okS σ.1 σ.2.2.1 S) i))) → J mX8_orders (d + 4) 63 [some (.ref m), some (.int (nI S)), some (.int (nI i)), some (.int x2), some (.int (nI (grdF σ.1.length S (okS σ.1 σ.2.2.1 S) k))), some (.int v), some (.int (nI k))] [] h (some (.int (nI (nxtF σ.1.length S (okS σ.1 σ.2.2.1 S) (grdF σ.1.length S (okS σ.1 σ.2.2.1 S) i))))) h := by
  have n8 := hB.n8
  have hk := okS_steps (P := σ.1) (w := σ.2.2.1) n8 hS
  have hp8 := popN_le S
  intro n
  induction n with
  | zero =>
    intro k v hn hki hv
    have e : k = i + 1 := by omega
    rw [hv e, e]
    exact k_X8_orders_63 (fun _ => k_X8_orders_105) (fun z => absurd (nI_lt (by omega) (by omega)) z)
  | succ n ih =>
    intro k v hn hki hv
    obtain ⟨g1, g2, g3⟩ := grd_ok hk hpos k (by omega)
    obtain ⟨f1, f2⟩ := grd_next hk hpos (k := k) (by omega)
    have hsub := rch_sub hk subS_0 g1
    refine k_X8_orders_63 (fun z => absurd z (nI_nlt (a := i) (b := k) (by omega) (by omega))) (fun _ => k_X8_orders_69 (v_first hS hsub hM hB hw _ 0 _ rfl f1 (k_X8_orders_90 ?_)))
    rw [or_I (by omega), nI_1]
    exact ih (k + 1) _ (by omega) (by omega) (fun e => by rw [show k = i by omega])
theorem m_orders {s i : Int32} (hS : MS h m ko to T) : RfQ mX8_orders (d + 10) [.ref m, .int s, .int i] h m ko to T (q_orders T.1 s i) := by
  have hS0 := hS
  obtain ⟨hT, hM, hB, hTp, hRf, hSh, hK, hTr⟩ := hS
  obtain ⟨o1, o2, o3, o4, o5, o6⟩ := hT.1
  have n8 := hB.n8
  have l8 := hB.l8
  unfold q_orders
  cases hb : inB s 0 ((2 ^ T.1.1.length : Nat) - 1) with
  | false =>
    rw [Bool.false_and, if_neg (by decide)]
    exact mqR (k := 0) (by omega) hS0 (fun h1 r e => jm mi_X8_orders (Nat.le_of_ble_eq_true rfl) ⟨.int, rfl, rfl⟩ rfl (k_X8_orders_0 (u_isSet hM hB) (Or.inl rfl) hM.g (fun _ => k_X8_orders_13 r (Or.inl e) hM.g) (fun z => absurd z (by rw [hb]; decide))))
  | true =>
    rw [Bool.true_and]
    obtain ⟨S, hS1, rfl, hS2⟩ := setB n8 hb
    rw [nn_I (by omega)]
    have m1 : (-1 : Int32) ≤ i ↔ -1 ≤ i.toInt := by rw [fa_le]; exact Iff.rfl
    by_cases hi : -1 ≤ i.toInt
    · rw [if_pos (decide_eq_true hi)]
      obtain ⟨h1, a1, a2, a3⟩ := u_findOrders (d := d + 6) hS1 hM hB
      have hM1 := hM.keep a2
      have hB1 := hB.keep a2 k24
      have hk := okS_steps (P := T.1.1) (w := T.1.2.2.1) n8 hS1
      have hwl := ways_lt hk 0
      have ent : ∀ {o : Option Value} {h' : PH}, RetT (some .int) o → (¬ i = -1 → J mX8_orders (d + 10) 34 [some (.ref m), some (.int (nI S)), some (.int i), some (.int (nI (ways T.1.1.length S (okS T.1.1 T.1.2.2.1 S) 0))), none, none, none] [] h1 o h') → (i = -1 → J mX8_orders (d + 10) 32 [some (.ref m), some (.int (nI S)), some (.int i), some (.int (nI (ways T.1.1.length S (okS T.1.1 T.1.2.2.1 S) 0))), none, none, none] [] h1 o h') → JMt mX8_orders (some .int) (d + 10) [.ref m, .int (nI S), .int i] h o h' := fun rt k1 k2 => jm mi_X8_orders (Nat.le_of_ble_eq_true rfl) rt rfl (k_X8_orders_0 (u_isSet hM hB) (Or.inl rfl) hM.g (fun z => absurd z (by rw [hb]; decide)) (fun _ => k_X8_orders_8 (fun _ => k_X8_orders_21 a1 (Or.inl a2.1) hM.g k1 k2) (fun z => absurd (m1.mpr hi) z)))
      by_cases him : i.toInt = -1
      · have hie : i = -1 := Int32.toInt_inj.mp (by rw [him]; rfl)
        rw [if_pos him]
        exact mqV hS0 ⟨h1, ent ⟨.int, rfl, rfl⟩ (fun z => absurd hie z) (fun _ => k_X8_orders_32), a2.mono (fun i k => f24), hB1⟩
      · have hie : ¬ i = -1 := fun z => him (by rw [z]; rfl)
        rw [if_neg him]
        have stuck : (ways T.1.1.length S (okS T.1.1 T.1.2.2.1 S) 0 = 0 ∨ ¬ i.toInt < popN S) → RfQ mX8_orders (d + 10) [.ref m, .int (nI S), .int i] h m ko to T (.inl 3) := fun z => by
          have hS2' := hS0.same (a2.mono (fun i k => f24)) hB1
          obtain ⟨h2, r1, r2, r3⟩ := u_refuse (k := 3) (d := d + 9) (by omega) hS2'
          refine ⟨h2, ent ⟨.int, rfl, rfl⟩ (fun _ => k_X8_orders_34 (fun _ => k_X8_orders_46 r1 (Or.inl r2.1) hM1.g) (fun y => k_X8_orders_38 (u_bits hS2) (Or.inl rfl) (fun y2 => absurd (z.elim (fun w => absurd (by rw [w]; rfl) y) (fun w => w (by rw [ltLit (by have := popN_le S; omega)] at y2; exact y2))) (fun f => f)) (fun _ => k_X8_orders_46 r1 (Or.inl r2.1) hM1.g))) (fun y => absurd y hie), (a2.mono (fun i k q => fVSM (f24 q))).tr (r2.mono (fun i k q => by unfold fM; omega)), r3⟩
        by_cases hlt : i.toInt < popN S ∧ 0 < ways T.1.1.length S (okS T.1.1 T.1.2.2.1 S) 0
        · rw [if_pos hlt]
          have hp8 := popN_le S
          obtain ⟨i, hi1, rfl⟩ := inr (x := i) (n := popN S) (by rw [lt0I]; omega) hlt.1
          rw [nn_I (by omega)]
          have := v_orders (d := d + 6) (x2 := nI (ways T.1.1.length S (okS T.1.1 T.1.2.2.1 S) 0)) hS1 hM1 hB1 a3 hlt.2 hi1 _ 0 (-1) rfl (Nat.zero_le _) (fun e => by omega)
          refine mqV hS0 ⟨h1, ent ⟨.int, rfl, rfl⟩ (fun _ => k_X8_orders_34 (fun y => absurd ((nI_eq (b := 0) (by omega) (by omega)).mp y) (by omega)) (fun _ => k_X8_orders_38 (u_bits hS2) (Or.inl rfl) (fun _ => k_X8_orders_54 this) (fun y => absurd (nI_lt hi1 (by omega)) y))) (fun y => absurd y hie), a2.mono (fun i k => f24), hB1⟩
        · rw [if_neg hlt]
          exact stuck (by omega)
    · rw [if_neg (by rw [decide_eq_true_eq]; exact hi)]
      exact mqR (k := 0) (by omega) hS0 (fun h1 r e => jm mi_X8_orders (Nat.le_of_ble_eq_true rfl) ⟨.int, rfl, rfl⟩ rfl (k_X8_orders_0 (u_isSet hM hB) (Or.inl rfl) hM.g (fun z => absurd z (by rw [hb]; decide)) (fun _ => k_X8_orders_8 (fun z => absurd (m1.mp z) hi) (fun _ => k_X8_orders_13 r (Or.inl e) hM.g))))
theorem v_feet {σ : WS} {S : Nat} {x2 : Int32} (hS : S < 2 ^ σ.1.length) (hM : ModH h m) (hB : MB h m σ) (hw : WayS h (m + 24) σ.1.length S (okS σ.1 σ.2.2.1 S) 0) : ∀ n j, σ.1.length - j = n → j ≤ σ.1.length → ∀ {o : Option Value} {h' : PH}, J mX8_ends (d + 4) 74 [some (.ref m), some (.int (nI S)), some (.int x2), some (.int (nI (mkN (leadB σ.1.length S (okS σ.1 σ.2.2.1 S) 0) σ.1.length))), some (.int (nI σ.1.length))] [] h o h' → J mX8_ends (d + 4) 37 [some (.ref m), some (.int (nI S)), some (.int x2), some (.int (nI (mkN (leadB σ.1.length S (okS σ.1 σ.2.2.1 S) 0) j))), some (.int (nI j))] [] h o h' := by
  have n8 := hB.n8
  intro n
  induction n with
  | zero =>
    intro j hj hl o h' kk
    have : j = σ.1.length := by omega
    subst this
    exact k_X8_ends_37 hM.g (fun _ => kk) (fun q => absurd (by rw [hB.n]; exact nI_le (by omega) (by omega)) q)
  | succ n ih =>
    intro j hj hl o h' kk
    have hjl : j < σ.1.length := by omega
    have hmc := u_mayCome (d := d) (b := 0) (p := j) hS subS_0 hjl hM hB hw
    have nx := ih (j + 1) (by omega) (by omega) kk
    rw [mkN_succ] at nx
    refine k_X8_ends_37 hM.g (fun q => absurd q (by rw [hB.n]; exact nI_ge hjl (by omega))) (fun _ => k_X8_ends_46 hmc (Or.inl rfl) hM.g (fun q => ?_) (fun q => ?_))
    · have q := bI_0.mp q
      rw [if_neg (by rw [q]; decide)] at nx
      refine k_X8_ends_65 (k_X8_ends_66 ?_)
      rw [show (0 : Int32) = nI 0 from rfl, fa_or, Nat.or_zero, nI_1]
      exact nx
    · have q := bI_n0.mp q
      rw [if_pos q] at nx
      refine k_X8_ends_58 (k_X8_ends_66 ?_)
      rw [bitI (by omega), fa_or, nI_1]
      exact nx
theorem m_ends {s w : Int32} (hS : MS h m ko to T) : RfQ mX8_ends (d + 10) [.ref m, .int s, .int w] h m ko to T (q_ends T.1 s w) := by
  have hS0 := hS
  obtain ⟨hT, hM, hB, hTp, hRf, hSh, hK, hTr⟩ := hS
  obtain ⟨o1, o2, o3, o4, o5, o6⟩ := hT.1
  have n8 := hB.n8
  have l8 := hB.l8
  unfold q_ends
  cases hb : inB s 0 ((2 ^ T.1.1.length : Nat) - 1) with
  | false =>
    rw [Bool.false_and, if_neg (by decide)]
    exact mqR (k := 0) (by omega) hS0 (fun h1 r e => jm mi_X8_ends (Nat.le_of_ble_eq_true rfl) ⟨.int, rfl, rfl⟩ rfl (k_X8_ends_0 (u_isSet hM hB) (Or.inl rfl) hM.g (fun _ => k_X8_ends_18 r (Or.inl e) hM.g) (fun z => absurd z (by rw [hb]; decide))))
  | true =>
    rw [Bool.true_and]
    cases hb2 : inB w 0 1 with
    | false =>
      rw [if_neg (by decide)]
      exact mqR (k := 0) (by omega) hS0 (fun h1 r e => jm mi_X8_ends (Nat.le_of_ble_eq_true rfl) ⟨.int, rfl, rfl⟩ rfl (k_X8_ends_0 (u_isSet hM hB) (Or.inl rfl) hM.g (fun z => absurd z (by rw [hb]; decide)) (fun _ => k_X8_ends_8 t_in_0_1 (Or.inl rfl) (fun z => absurd z (by rw [hb2]; decide)) (fun _ => k_X8_ends_18 r (Or.inl e) hM.g))))
    | true =>
      rw [if_pos rfl]
      obtain ⟨S, hS1, rfl, hS2⟩ := setB n8 hb
      obtain ⟨w, hw1, rfl⟩ := inB_nI (n := 1) (by omega) hb2
      rw [nn_I (by omega), nn_I (by omega)]
      obtain ⟨h1, a1, a2, a3⟩ := u_findOrders (d := d + 6) hS1 hM hB
      have hM1 := hM.keep a2
      have hB1 := hB.keep a2 k24
      have ent : ∀ {o : Option Value} {h' : PH}, RetT (some .int) o → J mX8_ends (d + 10) 74 [some (.ref m), some (.int (nI S)), some (.int (nI w)), some (.int (nI (mkN (leadB T.1.1.length S (okS T.1.1 T.1.2.2.1 S) 0) T.1.1.length))), some (.int (nI T.1.1.length))] [] h1 o h' → JMt mX8_ends (some .int) (d + 10) [.ref m, .int (nI S), .int (nI w)] h o h' := fun rt kk => jm mi_X8_ends (Nat.le_of_ble_eq_true rfl) rt rfl (k_X8_ends_0 (u_isSet hM hB) (Or.inl rfl) hM.g (fun z => absurd z (by rw [hb]; decide)) (fun _ => k_X8_ends_8 t_in_0_1 (Or.inl rfl) (fun _ => k_X8_ends_26 a1 (Or.inl a2.1) hM.g (v_feet (d := d + 6) (x2 := nI w) hS1 hM1 hB1 a3 _ 0 rfl (Nat.zero_le _) kk)) (fun z => absurd z (by rw [hb2]; decide))))
      by_cases hw0 : w = 0
      · subst hw0
        rw [if_pos rfl]
        exact mqV hS0 ⟨h1, ent ⟨.int, rfl, rfl⟩ (k_X8_ends_74 (fun z => absurd rfl z) (fun _ => k_X8_ends_78 k_X8_ends_87)), a2.mono (fun i k => f24), hB1⟩
      · rw [if_neg hw0]
        obtain ⟨h2, b1, b2⟩ := u_topsOf (d := d + 6) hS1 hM1 hB1
        exact mqV hS0 ⟨h2, ent ⟨.int, rfl, rfl⟩ (k_X8_ends_74 (fun _ => k_X8_ends_82 b1 (Or.inl b2.1) hM1.g k_X8_ends_87) (fun z => absurd ((nI_eq (b := 0) (by omega) (by omega)).mp z) hw0)), (a2.mono (fun i k => f24)).tr (b2.mono (fun i k => f25)), hB1.keep b2 k25⟩
theorem v_highest {σ : WS} {x1 : Int32} : ∀ n s (h : PH), 2 ^ σ.1.length - (s + 1) = n → s + 1 ≤ 2 ^ σ.1.length → ModH h m → MB h m σ →
    ∃ h1, (∀ o h', J mX8_highest (d + 4) 72 [some (.ref m), some (.int x1), some (.int (nI (hiF σ.1 σ.2.2.2.1 σ.2.2.1 (2 ^ σ.1.length - 1)))), some (.int (nI (2 ^ σ.1.length)))] [] h1 o h' → J mX8_highest (d + 4) 22 [some (.ref m), some (.int x1), some (.int (nI (hiF σ.1 σ.2.2.2.1 σ.2.2.1 s))), some (.int (nI (s + 1)))] [] h o h') ∧ Upf (fun i _ => i = m + 24) h h1 := by
  intro n
  induction n with
  | zero =>
    intro s h hn hs hM hB
    have h256 := pow_le8 hB.n8
    have n8 := hB.n8
    have : s + 1 = 2 ^ σ.1.length := by omega
    refine ⟨h, fun o h' kk => k_X8_highest_22 hM.g (fun _ => ?_) (fun q => absurd (by rw [hB.n, bitI (by omega)]; exact nI_le (by omega) (by omega)) q), Upf.rf⟩
    rw [this, show s = 2 ^ σ.1.length - 1 by omega]
    exact kk
  | succ n ih =>
    intro s h hn hs hM hB
    have h256 := pow_le8 hB.n8
    have n8 := hB.n8
    have m8 := hB.m8
    have hle := hiF_le (P := σ.1) (most := σ.2.2.2.1) (w := σ.2.2.1) s
    have hp8 := popN_le (s + 1)
    have ts1 := tallS_le hB.ok n8 (s + 1)
    have ts2 := tallS_le hB.ok n8 (hiF σ.1 σ.2.2.2.1 σ.2.2.1 s)
    have hh : hiF σ.1 σ.2.2.2.1 σ.2.2.1 (s + 1) = if popN (s + 1) ≤ σ.2.2.2.1 ∧ tallS σ.1 (hiF σ.1 σ.2.2.2.1 σ.2.2.1 s) < tallS σ.1 (s + 1) ∧ 0 < ways σ.1.length (s + 1) (okS σ.1 σ.2.2.1 (s + 1)) 0 then s + 1 else hiF σ.1 σ.2.2.2.1 σ.2.2.1 s := rfl
    have hS : s + 1 < 2 ^ σ.1.length := by omega
    have hk := okS_steps (P := σ.1) (w := σ.2.2.1) n8 hS
    have hwl := ways_lt hk 0
    have ent : ∀ {o : Option Value} {h' : PH}, J mX8_highest (d + 4) 32 [some (.ref m), some (.int x1), some (.int (nI (hiF σ.1 σ.2.2.2.1 σ.2.2.1 s))), some (.int (nI (s + 1)))] [] h o h' → J mX8_highest (d + 4) 22 [some (.ref m), some (.int x1), some (.int (nI (hiF σ.1 σ.2.2.2.1 σ.2.2.1 s))), some (.int (nI (s + 1)))] [] h o h' := fun kk => k_X8_highest_22 hM.g (fun q => absurd q (by rw [hB.n, bitI (by omega)]; exact nI_ge (by omega) (by omega))) (fun _ => kk)
    -- not this one
    have no : ∀ h2 : PH, Upf (fun i _ => i = m + 24) h h2 → ¬ (popN (s + 1) ≤ σ.2.2.2.1 ∧ tallS σ.1 (hiF σ.1 σ.2.2.2.1 σ.2.2.1 s) < tallS σ.1 (s + 1) ∧ 0 < ways σ.1.length (s + 1) (okS σ.1 σ.2.2.1 (s + 1)) 0) → ∃ h1, (∀ o h', J mX8_highest (d + 4) 72 [some (.ref m), some (.int x1), some (.int (nI (hiF σ.1 σ.2.2.2.1 σ.2.2.1 (2 ^ σ.1.length - 1)))), some (.int (nI (2 ^ σ.1.length)))] [] h1 o h' → J mX8_highest (d + 4) 66 [some (.ref m), some (.int x1), some (.int (nI (hiF σ.1 σ.2.2.2.1 σ.2.2.1 s))), some (.int (nI (s + 1)))] [] h2 o h') ∧ Upf (fun i _ => i = m + 24) h h1 := fun h2 U2 z => by
      rw [if_neg z] at hh
      obtain ⟨h1, b1, b2⟩ := ih (s + 1) h2 (by omega) (by omega) (hM.keep U2) (hB.keep U2 k24)
      refine ⟨h1, fun o h' kk => k_X8_highest_66 ?_, U2.tr b2⟩
      rw [nI_1, ← hh]
      exact b1 o h' kk
    by_cases c1 : popN (s + 1) ≤ σ.2.2.2.1
    · have g1 : ∀ {o : Option Value} {h' : PH}, J mX8_highest (d + 4) 43 [some (.ref m), some (.int x1), some (.int (nI (hiF σ.1 σ.2.2.2.1 σ.2.2.1 s))), some (.int (nI (s + 1)))] [] h o h' → J mX8_highest (d + 4) 32 [some (.ref m), some (.int x1), some (.int (nI (hiF σ.1 σ.2.2.2.1 σ.2.2.1 s))), some (.int (nI (s + 1)))] [] h o h' := fun kk => k_X8_highest_32 (u_bits (s := s + 1) (by omega)) (Or.inl rfl) hM.g (fun q => absurd q (by rw [hB.mo]; exact nI_nlt (a := σ.2.2.2.1) (b := popN (s + 1)) (by omega) (by omega))) (fun _ => kk)
      by_cases c2 : tallS σ.1 (hiF σ.1 σ.2.2.2.1 σ.2.2.1 s) < tallS σ.1 (s + 1)
      · obtain ⟨h2, a1, a2, a3⟩ := u_findOrders (d := d) hS hM hB
        have g2 : ∀ {o : Option Value} {h' : PH}, J mX8_highest (d + 4) 56 [some (.ref m), some (.int x1), some (.int (nI (hiF σ.1 σ.2.2.2.1 σ.2.2.1 s))), some (.int (nI (s + 1)))] [] h o h' → J mX8_highest (d + 4) 22 [some (.ref m), some (.int x1), some (.int (nI (hiF σ.1 σ.2.2.2.1 σ.2.2.1 s))), some (.int (nI (s + 1)))] [] h o h' := fun kk => ent (g1 (k_X8_highest_43 (u_tallOfSet (s := s + 1) (by omega) hM hB) (Or.inl rfl) hM.g (u_tallOfSet (by omega) hM hB) (Or.inl rfl) hM.g (fun q => absurd q (nI_ge c2 (by omega))) (fun _ => kk)))
        by_cases c3 : 0 < ways σ.1.length (s + 1) (okS σ.1 σ.2.2.1 (s + 1)) 0
        · rw [if_pos ⟨c1, c2, c3⟩] at hh
          obtain ⟨h1, b1, b2⟩ := ih (s + 1) h2 (by omega) (by omega) (hM.keep a2) (hB.keep a2 k24)
          refine ⟨h1, fun o h' kk => g2 (k_X8_highest_56 a1 (Or.inl a2.1) hM.g (fun q => absurd q (nI_ge (a := 0) c3 (by omega))) (fun _ => k_X8_highest_64 (k_X8_highest_66 ?_))), a2.tr b2⟩
          rw [nI_1]
          rw [hh] at b1
          exact b1 o h' kk
        · obtain ⟨h1, b1, b2⟩ := no h2 a2 (fun z => c3 z.2.2)
          exact ⟨h1, fun o h' kk => g2 (k_X8_highest_56 a1 (Or.inl a2.1) hM.g (fun _ => b1 o h' kk) (fun q => absurd (nI_le (b := 0) (by omega) (by omega)) q)), b2⟩
      · obtain ⟨h1, b1, b2⟩ := no h Upf.rf (fun z => c2 z.2.1)
        exact ⟨h1, fun o h' kk => ent (g1 (k_X8_highest_43 (u_tallOfSet (s := s + 1) (by omega) hM hB) (Or.inl rfl) hM.g (u_tallOfSet (by omega) hM hB) (Or.inl rfl) hM.g (fun _ => b1 o h' kk) (fun q => absurd (nI_le (by omega) (by omega)) q))), b2⟩
    · obtain ⟨h1, b1, b2⟩ := no h Upf.rf (fun z => c1 z.1)
      exact ⟨h1, fun o h' kk => ent (k_X8_highest_32 (u_bits (s := s + 1) (by omega)) (Or.inl rfl) hM.g (fun _ => b1 o h' kk) (fun q => absurd (by rw [hB.mo]; exact nI_lt (by omega) (by omega)) q)), b2⟩
theorem m_highest {w : Int32} (hS : MS h m ko to T) : RfQ mX8_highest (d + 10) [.ref m, .int w] h m ko to T (q_highest T.1 w) := by
  have hS0 := hS
  obtain ⟨hT, hM, hB, hTp, hRf, hSh, hK, hTr⟩ := hS
  obtain ⟨o1, o2, o3, o4, o5, o6⟩ := hT.1
  have n8 := hB.n8
  have l8 := hB.l8
  unfold q_highest
  cases hb : inB w 0 1 with
  | false =>
    rw [if_neg (by decide)]
    exact mqR (k := 0) (by omega) hS0 (fun h1 r e => jm mi_X8_highest (Nat.le_of_ble_eq_true rfl) ⟨.int, rfl, rfl⟩ rfl (k_X8_highest_0 t_in_0_1 (Or.inl rfl) (fun z => absurd z (by rw [hb]; decide)) (fun _ => k_X8_highest_10 r (Or.inl e) hM.g)))
  | true =>
    rw [if_pos rfl]
    obtain ⟨w, hw1, rfl⟩ := inB_nI (n := 1) (by omega) hb
    rw [nn_I (by omega)]
    have h256 := pow_le8 n8
    have hpos := Nat.two_pow_pos T.1.1.length
    obtain ⟨h1, a1, a2⟩ := v_highest (d := d + 6) (m := m) (σ := T.1) (x1 := nI w) _ 0 h rfl (by omega) hM hB
    have hle := hiF_le (P := T.1.1) (most := T.1.2.2.2.1) (w := T.1.2.2.1) (2 ^ T.1.1.length - 1)
    have hM1 := hM.keep a2
    have hB1 := hB.keep a2 k24
    have ent : ∀ {o : Option Value} {h' : PH}, RetT (some .int) o → J mX8_highest (d + 10) 72 [some (.ref m), some (.int (nI w)), some (.int (nI (hiF T.1.1 T.1.2.2.2.1 T.1.2.2.1 (2 ^ T.1.1.length - 1)))), some (.int (nI (2 ^ T.1.1.length)))] [] h1 o h' → JMt mX8_highest (some .int) (d + 10) [.ref m, .int (nI w)] h o h' := fun rt kk => jm mi_X8_highest (Nat.le_of_ble_eq_true rfl) rt rfl (k_X8_highest_0 t_in_0_1 (Or.inl rfl) (fun _ => k_X8_highest_18 (a1 _ _ kk)) (fun z => absurd z (by rw [hb]; decide)))
    by_cases hw0 : w = 0
    · subst hw0
      rw [if_pos rfl]
      exact mqV hS0 ⟨h1, ent ⟨.int, rfl, rfl⟩ (k_X8_highest_72 (fun z => absurd rfl z) (fun _ => k_X8_highest_76 k_X8_highest_85)), a2.mono (fun i k => f24), hB1⟩
    · rw [if_neg hw0]
      exact mqV hS0 ⟨h1, ent ⟨.int, rfl, rfl⟩ (k_X8_highest_72 (fun _ => k_X8_highest_80 (u_tallOfSet (by omega) hM1 hB1) (Or.inl rfl) hM1.g k_X8_highest_85) (fun z => absurd ((nI_eq (b := 0) (by omega) (by omega)).mp z) hw0)), a2.mono (fun i k => f24), hB1⟩
end OF
