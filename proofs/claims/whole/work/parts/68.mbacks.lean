/-! the reference: backs -/
def RowV (h : PH) (m s l : Nat) (v : Nat → Int64) : Prop := ∀ k, k < l → hL h (m + 5 + s) k = v k
theorem RowV.keep {F : Nat → Nat → Prop} {h h1 : PH} {m s l : Nat} {v : Nat → Int64} (hr : RowV h m s l v) (a : Upf F h h1) : RowV h1 m s l v := fun k hk => by rw [a.ll]; exact hr k hk
theorem sumN_pw {g g' : Nat → Nat} : ∀ n, (∀ i, i < n → g i ≤ g' i) → sumN g n ≤ sumN g' n
  | 0, _ => Nat.le_refl _
  | n + 1, h => Nat.add_le_add (sumN_pw n (fun i hi => h i (by omega))) (h n (by omega))
theorem sub_pop {a c : Nat} (h : subS a c) : popN a ≤ popN c := sumN_pw 8 (fun i _ => by
  cases ha : a.testBit i with
  | false => rw [if_neg (by decide)]; exact Nat.zero_le _
  | true => rw [if_pos rfl, h i ha, if_pos rfl]; exact Nat.le_refl _)
theorem k283 {m : Nat} : ∀ i k, fV m i k → ¬ i = m + 283 := fun i k q => by unfold fV at q; omega
theorem f283 {m i k : Nat} (q : i = m + 283) : fVS m i k := Or.inr (by unfold fS; omega)
section OG
variable {d : Nat} {h : PH} {m : Nat} {σ : WS}
theorem u_isTold {s S b p l : Nat} {v : Nat → Int64} (hs : s < 8) (hl40 : l ≤ 40) (hpl : popN S ≤ l) (hS : S < 2 ^ σ.1.length) (hsub : subS b S) (hp : p < σ.1.length) (hM : ModH h m) (hB : MB h m σ) (hrv : RowV h m s l v) : JMt mX8_isTold (some .boolean) (d + 2) [.ref m, .int (nI s), .int (nI S), .int (nI b), .int (nI p)] h (some (.int (bI (okB σ.1 l v S b p)))) h := by
  have n8 := hB.n8
  have h256 := pow_le8 n8
  have hbS := subS_le hsub
  have hd := dif_lt (S := S) (b := b) (by omega)
  have hdb := dif_bit (S := S) (b := b) (i := p) (by omega)
  have sb := shr1_iff (s := difN S b) (p := p) hd (by omega)
  rw [hdb] at sb
  have no : okB σ.1 l v S b p = false → J mX8_isTold (d + 2) 50 [some (.ref m), some (.int (nI s)), some (.int (nI S)), some (.int (nI b)), some (.int (nI p))] [] h (some (.int (bI (okB σ.1 l v S b p)))) h := fun e => by rw [e]; exact k_X8_isTold_50 k_X8_isTold_51
  refine jm mi_X8_isTold (Nat.le_of_ble_eq_true rfl) rB rfl (k_X8_isTold_0 (fun q => no ?_) (fun q => ?_))
  · rw [dif_I (by omega) (by omega), sb] at q
    unfold okB
    rw [show (S.testBit p && !b.testBit p) = false from by rw [← Bool.not_eq_true]; exact q, Bool.and_false, Bool.false_and]
  · rw [dif_I (by omega) (by omega), sb] at q
    obtain ⟨t1, t2⟩ := Bool.and_eq_true_iff.mp q
    have t2' : b.testBit p = false := by simpa using t2
    have hpo := popN_or (b := b) (p := p) (by omega) t2'
    have hps := sub_pop (subS_or hsub t1)
    have hok : okB σ.1 l v S b p = decide ((nI (massS σ.1 (difN S b) - massP (pg σ.1 p))).toInt64 = v (popN b)) := by
      unfold okB
      rw [decide_eq_true hp, q, cellI_at (by omega) (by omega)]
      rfl
    have e1 : (nI S &&& (nI b ^^^ (-1 : Int32))) &&& (((1 : Int32) <<< (nI p &&& 31)) ^^^ (-1 : Int32)) = nI (difN (difN S b) (2 ^ p)) := by rw [dif_I (by omega) (by omega), rem_I hd (by omega)]
    have hm := u_massOfSet (d := d) (dif_lt (b := 2 ^ p) hd) hM hB
    rw [mass_rem (by omega) hp t1 t2'] at hm
    have hcell : hL h (m + 5 + s) (nI (popN b)).toNatClampNeg = v (popN b) := by rw [nI_clamp (by omega)]; exact hrv _ (by omega)
    refine k_X8_isTold_14 (by rw [e1]; exact hm) (Or.inl rfl) hM.g hM.g hM.r3 hM.g3 (by decide) (vp_in_nI (by omega) (by omega)) (by rw [nI_clamp (by omega)]; exact hM.rw hs) (u_bits (s := b) (by omega)) (Or.inl rfl) (hM.gw hs) (vp_in_nI (by omega) (by omega)) (fun z => no ?_) (fun z => ?_)
    · rw [hcell, lg_cmp_eq] at z
      rw [hok, decide_eq_false z]
    · rw [hcell, lg_cmp_eq] at z
      rw [hok, decide_eq_true z]
      exact k_X8_isTold_46 k_X8_isTold_51
theorem v_backsIn {s S b l : Nat} {v : Nat → Int64} (hs : s < 8) (hl40 : l ≤ 40) (hpl : popN S ≤ l) {ok : Nat → Nat → Bool} (eok : ok = okB σ.1 l v S) (hS : S < 2 ^ σ.1.length) (hbS : b < S) (hsub : subS b S) (hk : stepsOK σ.1.length S ok) : ∀ n j (h : PH), σ.1.length - j = n → j ≤ σ.1.length → ModH h m → MB h m σ → RowV h m s l v → WayS h (m + 283) σ.1.length S ok (b + 1) → hI h (m + 283) b = nI (sumN (fun p => if ok b p then ways σ.1.length S ok (b ||| 2 ^ p) else 0) j) →
    ∃ h1, (∀ o h', J mX8_findBacks (d + 3) 84 [some (.ref m), some (.int (nI s)), some (.int (nI S)), some (.int (nI b)), none] [] h1 o h' → J mX8_findBacks (d + 3) 33 [some (.ref m), some (.int (nI s)), some (.int (nI S)), some (.int (nI b)), some (.int (nI j))] [] h o h') ∧ Upf (fun i _ => i = m + 283) h h1 ∧ WayS h1 (m + 283) σ.1.length S ok b := by
  intro n
  induction n with
  | zero =>
    intro j h hj hl hM hB hrv hw hb
    have n8 := hB.n8
    have : j = σ.1.length := by omega
    subst this
    refine ⟨h, fun o h' kk => k_X8_findBacks_33 hM.g (fun _ => kk) (fun q => absurd (by rw [hB.n]; exact nI_le (by omega) (by omega)) q), Upf.rf, fun x h1 h2 h3 => ?_⟩
    by_cases e : x = b
    · subst e
      rw [hb, ways_eq hk x, if_neg (by omega), Nat.zero_add]
    · exact hw x (by omega) h2 h3
  | succ n ih =>
    intro j h hj hl hM hB hrv hw hb
    have n8 := hB.n8
    have h256 := pow_le8 n8
    have hjl : j < σ.1.length := by omega
    have cb : (nI b).toNatClampNeg = b := nI_clamp (by omega)
    have es : sumN (fun p => if ok b p then ways σ.1.length S ok (b ||| 2 ^ p) else 0) (j + 1) = sumN (fun p => if ok b p then ways σ.1.length S ok (b ||| 2 ^ p) else 0) j + (if ok b j = true then ways σ.1.length S ok (b ||| 2 ^ j) else 0) := rfl
    have add : ∀ v : Nat, v = (if ok b j = true then ways σ.1.length S ok (b ||| 2 ^ j) else 0) → ∃ h1, (∀ o h', J mX8_findBacks (d + 3) 84 [some (.ref m), some (.int (nI s)), some (.int (nI S)), some (.int (nI b)), none] [] h1 o h' → J mX8_findBacks (d + 3) 76 [some (.ref m), some (.int (nI s)), some (.int (nI S)), some (.int (nI b)), some (.int (nI j))] [.int (nI v), .int (hI h (m + 283) (nI b).toNatClampNeg), .int (nI b), .ref (m + 283)] h o h') ∧ Upf (fun i _ => i = m + 283) h h1 ∧ WayS h1 (m + 283) σ.1.length S ok b := fun v ev => by
      have U : Upf (fun i _ => i = m + 283) h (setI h (m + 283) b (nI (sumN (fun p => if ok b p then ways σ.1.length S ok (b ||| 2 ^ p) else 0) (j + 1)))) := Upf.set rfl
      obtain ⟨h1, b1, b2, b3⟩ := ih (j + 1) _ (by omega) (by omega) (hM.keep U) (hB.keep U k283) (hrv.keep U) (fun x h1 h2 h3 => by rw [hI_setI, if_neg (by omega)]; exact hw x h1 h2 h3) (by rw [hI_setI, if_pos ⟨rfl, rfl⟩])
      refine ⟨h1, fun o h' kk => k_X8_findBacks_76 hM.g34 (vp_in_nI (by omega) (by omega)) ?_, U.tr b2, b3⟩
      rw [cb, hb, nI_add, nI_1, ev, ← es]
      exact b1 o h' kk
    have hh := u_isTold (d := d) (b := b) (p := j) hs hl40 hpl hS hsub hjl hM hB hrv
    rw [← eok] at hh
    cases hok : ok b j with
    | false =>
      rw [hok] at hh
      obtain ⟨h1, a1, a2, a3⟩ := add 0 (by rw [hok]; rfl)
      exact ⟨h1, fun o h' kk => k_X8_findBacks_33 hM.g (fun q => absurd q (by rw [hB.n]; exact nI_ge hjl (by omega))) (fun _ => k_X8_findBacks_42 hM.g hM.r34 hM.g34 (vp_in_nI (by omega) (by omega)) hh (Or.inl rfl) (fun _ => k_X8_findBacks_75 (a1 o h' kk)) (fun z => absurd rfl z)), a2, a3⟩
    | true =>
      rw [hok] at hh
      obtain ⟨t1, t2⟩ := hk.2.2 b j hok
      obtain ⟨h1, a1, a2, a3⟩ := add (ways σ.1.length S ok (b ||| 2 ^ j)) (by rw [hok]; rfl)
      have hor := or_lt8 (b := b) (p := j) (by omega) (by omega)
      have hsu := subS_or hsub t1
      have hlt := lt_or t2
      refine ⟨h1, fun o h' kk => k_X8_findBacks_33 hM.g (fun q => absurd q (by rw [hB.n]; exact nI_ge hjl (by omega))) (fun _ => k_X8_findBacks_42 hM.g hM.r34 hM.g34 (vp_in_nI (by omega) (by omega)) hh (Or.inl rfl) (fun z => absurd z (by decide)) (fun _ => k_X8_findBacks_61 hM.g hM.r34 hM.g34 (by rw [or_I (by omega)]; exact (vp_in_nI (by omega) (by omega))) ?_)), a2, a3⟩
      rw [or_I (by omega), nI_clamp (n := b ||| 2 ^ j) (by omega), hw _ (by omega) (subS_le hsu) hsu]
      exact a1 o h' kk
theorem v_backs {s S l : Nat} {v : Nat → Int64} (hs : s < 8) (hl40 : l ≤ 40) (hpl : popN S ≤ l) {ok : Nat → Nat → Bool} (eok : ok = okB σ.1 l v S) (hS : S < 2 ^ σ.1.length) (hk : stepsOK σ.1.length S ok) : ∀ b (h : PH), b ≤ S → ModH h m → MB h m σ → RowV h m s l v → WayS h (m + 283) σ.1.length S ok b →
    ∃ h1, J mX8_findBacks (d + 3) 11 [some (.ref m), some (.int (nI s)), some (.int (nI S)), some (.int (sI ((b : Int) - 1))), none] [] h (some (.int (nI (ways σ.1.length S ok 0)))) h1 ∧ Upf (fun i _ => i = m + 283) h h1 ∧ WayS h1 (m + 283) σ.1.length S ok 0 := by
  intro b
  induction b with
  | zero =>
    intro h hb hM hB hrv hw
    have kk := k_X8_findBacks_90 (d := d + 3) (h := h) (a1 := nI s) (a2 := nI S) (a3 := sI (((0 : Nat) : Int) - 1)) hM.g hM.r34 hM.g34 (show vp_in (nI 0) 256 from (vp_in_nI (by omega) (by omega)))
    rw [show (0 : Int32).toNatClampNeg = 0 from rfl, hw 0 (Nat.le_refl _) (Nat.zero_le _) subS_0] at kk
    exact ⟨h, k_X8_findBacks_11 (fun _ => kk) (fun z => absurd (by decide) z), Upf.rf, hw⟩
  | succ b ih =>
    intro h hb hM hB hrv hw
    have n8 := hB.n8
    have h256 := pow_le8 n8
    have es : sI (((b + 1 : Nat) : Int) - 1) = nI b := by rw [nI_sI]; congr 1; omega
    rw [es]
    have nxt : ∀ h2 : PH, Upf (fun i _ => i = m + 283) h h2 → WayS h2 (m + 283) σ.1.length S ok b → ∃ h1, J mX8_findBacks (d + 3) 84 [some (.ref m), some (.int (nI s)), some (.int (nI S)), some (.int (nI b)), none] [] h2 (some (.int (nI (ways σ.1.length S ok 0)))) h1 ∧ Upf (fun i _ => i = m + 283) h h1 ∧ WayS h1 (m + 283) σ.1.length S ok 0 := fun h2 U2 hw2 => by
      obtain ⟨h1, b1, b2, b3⟩ := ih h2 (by omega) (hM.keep U2) (hB.keep U2 k283) (hrv.keep U2) hw2
      refine ⟨h1, k_X8_findBacks_84 ?_, U2.tr b2, b3⟩
      rw [dec_I]
      exact b1
    by_cases hsub : subS b S
    · have U : Upf (fun i _ => i = m + 283) h (setI h (m + 283) (nI b).toNatClampNeg 0) := Upf.set rfl
      have cb : (nI b).toNatClampNeg = b := nI_clamp (by omega)
      obtain ⟨h2, a1, a2, a3⟩ := v_backsIn (d := d) (m := m) hs hl40 hpl eok hS (by omega) hsub hk _ 0 (setI h (m + 283) (nI b).toNatClampNeg 0) rfl (Nat.zero_le _) (hM.keep U) (hB.keep U k283) (hrv.keep U) (fun x h1 h2 h3 => by rw [cb, hI_setI, if_neg (by omega)]; exact hw x h1 h2 h3) (by rw [cb, hI_setI, if_pos ⟨rfl, rfl⟩]; rfl)
      obtain ⟨h1, b1, b2, b3⟩ := nxt h2 (U.tr a2) a3
      exact ⟨h1, k_X8_findBacks_11 (fun z => absurd z (nI_lt0 (by omega))) (fun _ => k_X8_findBacks_15 (fun z => absurd ((sub_I (by omega) (by omega)).mpr hsub) z) (fun _ => k_X8_findBacks_23 hM.g hM.r34 hM.g34 (vp_in_nI (by omega) (by omega)) (a1 _ _ b1))), b2, b3⟩
    · obtain ⟨h1, b1, b2, b3⟩ := nxt h Upf.rf (fun x h1 h2 h3 => by
        by_cases e : x = b
        · subst e; exact absurd h3 hsub
        · exact hw x (by omega) h2 h3)
      exact ⟨h1, k_X8_findBacks_11 (fun z => absurd z (nI_lt0 (by omega))) (fun _ => k_X8_findBacks_15 (fun _ => b1) (fun z => absurd ((sub_I (by omega) (by omega)).mp z) hsub)), b2, b3⟩
theorem u_findBacks {s S l : Nat} {v : Nat → Int64} (hs : s < 8) (hl40 : l ≤ 40) (hpl : popN S ≤ l) (hS : S < 2 ^ σ.1.length) (hM : ModH h m) (hB : MB h m σ) (hrv : RowV h m s l v) : ∃ h1, JMt mX8_findBacks (some .int) (d + 3) [.ref m, .int (nI s), .int (nI S)] h (some (.int (nI (ways σ.1.length S (okB σ.1 l v S) 0)))) h1 ∧ Upf (fun i _ => i = m + 283) h h1 ∧ WayS h1 (m + 283) σ.1.length S (okB σ.1 l v S) 0 := by
  have n8 := hB.n8
  have h256 := pow_le8 n8
  have hk := okB_steps (P := σ.1) (m := l) (v := v) n8 hS
  have cs : (nI S).toNatClampNeg = S := nI_clamp (by omega)
  have U : Upf (fun i _ => i = m + 283) h (setI h (m + 283) (nI S).toNatClampNeg 1) := Upf.set rfl
  obtain ⟨h1, a1, a2, a3⟩ := v_backs (d := d) (m := m) (σ := σ) (S := S) hs hl40 hpl rfl hS hk S (setI h (m + 283) (nI S).toNatClampNeg 1) (Nat.le_refl _) (hM.keep U) (hB.keep U k283) (hrv.keep U) (fun x h1 h2 h3 => by
    have : x = S := by omega
    subst this
    rw [cs, hI_setI, if_pos ⟨rfl, rfl⟩, ways_S hk]
    rfl)
  refine ⟨h1, jm mi_X8_findBacks (Nat.le_of_ble_eq_true rfl) ⟨.int, rfl, rfl⟩ rfl (k_X8_findBacks_0 hM.g hM.r34 hM.g34 (vp_in_nI (by omega) (by omega)) ?_), U.tr a2, a3⟩
  rw [show nI S - (1 : Int32) = sI ((S : Int) - 1) by rw [show (1 : Int32) = nI 1 from rfl, nI_nsub]; rfl]
  exact a1
theorem v_backTopsIn {s S b l : Nat} {v : Nat → Int64} (hs : s < 8) (hl40 : l ≤ 40) (hpl : popN S ≤ l) {ok : Nat → Nat → Bool} (eok : ok = okB σ.1 l v S) (hS : S < 2 ^ σ.1.length) (hbS : b ≤ S) (hsub : subS b S) (hk : stepsOK σ.1.length S ok) : ∀ n j (h : PH), σ.1.length - j = n → j ≤ σ.1.length → ModH h m → MB h m σ → RowV h m s l v → CmeS h (m + 25) S ok b → hI h (m + 25) b = bI (decide (b = 0) || orB (cmB ok b) j) →
    ∃ h1, (∀ o h', J mX8_backTops (d + 3) 144 [some (.ref m), some (.int (nI s)), some (.int (nI S)), some (.int (nI (if b = S then mkN (cmB ok S) σ.1.length else 0))), some (.int (nI b)), some (.int (nI σ.1.length)), none] [] h1 o h' → J mX8_backTops (d + 3) 31 [some (.ref m), some (.int (nI s)), some (.int (nI S)), some (.int (nI (if b = S then mkN (cmB ok S) j else 0))), some (.int (nI b)), some (.int (nI j)), none] [] h o h') ∧ Upf (fun i _ => i = m + 25) h h1 ∧ CmeS h1 (m + 25) S ok (b + 1) := by
  intro n
  induction n with
  | zero =>
    intro j h hj hl hM hB hrv hc hb
    have n8 := hB.n8
    have h256 := pow_le8 n8
    have : j = σ.1.length := by omega
    subst this
    refine ⟨h, fun o h' kk => k_X8_backTops_31 hM.g (fun _ => kk) (fun q => absurd (by rw [hB.n]; exact nI_le (by omega) (by omega)) q), Upf.rf, fun x h1 h2 => ?_⟩
    by_cases e : x = b
    · subst e
      rw [hb, rcB_eq hk (by omega)]
    · exact hc x (by omega) h2
  | succ n ih =>
    intro j h hj hl hM hB hrv hc hb
    have n8 := hB.n8
    have h256 := pow_le8 n8
    have hjl : j < σ.1.length := by omega
    have cb : (nI b).toNatClampNeg = b := nI_clamp (by omega)
    have sb := shr1_iff (s := b) (p := j) (by omega) (by omega)
    have es : (decide (b = 0) || orB (cmB ok b) (j + 1)) = ((decide (b = 0) || orB (cmB ok b) j) || cmB ok b j) := by rw [Bool.or_assoc]; rfl
    -- one more
    have fin : ∀ v : Bool, v = cmB ok b j → ∃ h1, (∀ o h', J mX8_backTops (d + 3) 144 [some (.ref m), some (.int (nI s)), some (.int (nI S)), some (.int (nI (if b = S then mkN (cmB ok S) σ.1.length else 0))), some (.int (nI b)), some (.int (nI σ.1.length)), none] [] h1 o h' → J mX8_backTops (d + 3) 102 [some (.ref m), some (.int (nI s)), some (.int (nI S)), some (.int (nI (if b = S then mkN (cmB ok S) j else 0))), some (.int (nI b)), some (.int (nI j)), none] [.int (bI v)] h o h') ∧ Upf (fun i _ => i = m + 25) h h1 ∧ CmeS h1 (m + 25) S ok (b + 1) := fun v ev => by
      have eb : hI h (m + 25) (nI b).toNatClampNeg ||| bI v = bI (decide (b = 0) || orB (cmB ok b) (j + 1)) := by
        rw [cb, hb, es, ← ev]
        cases (decide (b = 0) || orB (cmB ok b) j) <;> cases v <;> decide
      have U : Upf (fun i _ => i = m + 25) h (setI h (m + 25) (nI b).toNatClampNeg (hI h (m + 25) (nI b).toNatClampNeg ||| bI v)) := Upf.set rfl
      have hM2 := hM.keep U
      obtain ⟨h1, b1, b2, b3⟩ := ih (j + 1) (setI h (m + 25) (nI b).toNatClampNeg (hI h (m + 25) (nI b).toNatClampNeg ||| bI v)) (by omega) (by omega) hM2 (hB.keep U (fun i k q => by unfold fV at q; omega)) (hrv.keep U) (fun x h1 h2 => by rw [cb, hI_setI, if_neg (by omega)]; exact hc x h1 h2) (by rw [← eb, cb, hI_setI, if_pos ⟨rfl, rfl⟩])
      refine ⟨h1, fun o h' kk => ?_, U.tr b2, b3⟩
      have go := b1 o h' kk
      have z01 : (hI h (m + 25) (nI b).toNatClampNeg ||| bI v) = 0 ∨ (hI h (m + 25) (nI b).toNatClampNeg ||| bI v) = 1 := by
        rw [eb]
        cases (decide (b = 0) || orB (cmB ok b) (j + 1))
        · exact Or.inl rfl
        · exact Or.inr rfl
      refine k_X8_backTops_102 hM.g hM.r32 hM.g32 (vp_in_nI (by omega) (by omega)) (vp_in_nI (by omega) (by omega)) z01 (fun q => ?_) (fun q => ?_)
      · have q := bI_0.mp q
        have e2 : (if b = S then mkN (cmB ok S) (j + 1) else 0) = (if b = S then mkN (cmB ok S) j else 0) := by
          by_cases e : b = S
          · subst e; rw [if_pos rfl, if_pos rfl, mkN_succ, if_neg (by rw [← ev, q]; decide)]
          · rw [if_neg e, if_neg e]
        rw [e2] at go
        refine k_X8_backTops_135 (k_X8_backTops_136 ?_)
        rw [show (0 : Int32) = nI 0 from rfl, fa_or, Nat.or_zero, nI_1]
        exact go
      · have q := bI_n0.mp q
        refine k_X8_backTops_122 (fun w => ?_) (fun w => ?_)
        · have hne : b ≠ S := fun e => w (by rw [e])
          rw [if_neg hne] at go ⊢
          refine k_X8_backTops_135 (k_X8_backTops_136 ?_)
          rw [show (0 : Int32) = nI 0 from rfl, fa_or, Nat.or_zero, nI_1]
          exact go
        · have he : b = S := (nI_eq (by omega) (by omega)).mp w
          have e2 : (if b = S then mkN (cmB ok S) (j + 1) else 0) = (if b = S then mkN (cmB ok S) j else 0) ||| 2 ^ j := by
            subst he; rw [if_pos rfl, if_pos rfl, mkN_succ, if_pos (by rw [← ev, q])]
          rw [e2] at go
          refine k_X8_backTops_128 (k_X8_backTops_136 ?_)
          rw [bitI (by omega), fa_or, nI_1]
          exact go
    have ent : ∀ {o : Option Value} {h' : PH}, (¬ b.testBit j = true → J mX8_backTops (d + 3) 101 [some (.ref m), some (.int (nI s)), some (.int (nI S)), some (.int (nI (if b = S then mkN (cmB ok S) j else 0))), some (.int (nI b)), some (.int (nI j)), none] [] h o h') → (b.testBit j = true → J mX8_backTops (d + 3) 60 [some (.ref m), some (.int (nI s)), some (.int (nI S)), some (.int (nI (if b = S then mkN (cmB ok S) j else 0))), some (.int (nI b)), some (.int (nI j)), none] [] h o h') → J mX8_backTops (d + 3) 31 [some (.ref m), some (.int (nI s)), some (.int (nI S)), some (.int (nI (if b = S then mkN (cmB ok S) j else 0))), some (.int (nI b)), some (.int (nI j)), none] [] h o h' := fun k1 k2 => k_X8_backTops_31 hM.g (fun q => absurd q (by rw [hB.n]; exact nI_ge hjl (by omega))) (fun _ => k_X8_backTops_40 (fun z => absurd ((sub_I (by omega) (by omega)).mpr hsub) z) (fun _ => k_X8_backTops_49 (fun q => k1 (fun z => q (sb.mpr z))) (fun q => k2 (sb.mp q))))
    by_cases hbit : b.testBit j = true
    · have hSj := hsub j hbit
      have eR : nI b &&& (((1 : Int32) <<< (nI j &&& 31)) ^^^ (-1 : Int32)) = nI (difN b (2 ^ j)) := rem_I (by omega) (by omega)
      have hlt := rem_lt (b := b) (p := j) (by omega) hbit
      have hsub2 : subS (difN b (2 ^ j)) S := sub_tr (rem_sub (by omega)) hsub
      have hcm := hc (difN b (2 ^ j)) hlt hsub2
      have ecm : cmB ok b j = (rcB ok (difN b (2 ^ j)) && ok (difN b (2 ^ j)) j) := by unfold cmB; rw [hbit, Bool.true_and]
      have hh := u_isTold (d := d) (S := S) (b := difN b (2 ^ j)) (p := j) hs hl40 hpl hS hsub2 hjl hM hB hrv
      rw [← eok] at hh
      cases hr : rcB ok (difN b (2 ^ j)) with
      | false =>
        rw [hr] at hcm
        obtain ⟨h1, f1, f2, f3⟩ := fin false (by rw [ecm, hr]; rfl)
        exact ⟨h1, fun o h' kk => ent (fun z => absurd hbit z) (fun _ => k_X8_backTops_60 hM.g hM.r32 hM.g32 (by rw [eR]; exact (vp_in_nI (by omega) (by omega))) (fun _ => k_X8_backTops_101 (f1 o h' kk)) (fun z => absurd (by rw [eR, nI_clamp (by omega)]; exact hcm) z)), f2, f3⟩
      | true =>
        rw [hr] at hcm
        cases ho : ok (difN b (2 ^ j)) j with
        | false =>
          rw [ho] at hh
          obtain ⟨h1, f1, f2, f3⟩ := fin false (by rw [ecm, hr, ho]; rfl)
          exact ⟨h1, fun o h' kk => ent (fun z => absurd hbit z) (fun _ => k_X8_backTops_60 hM.g hM.r32 hM.g32 (by rw [eR]; exact (vp_in_nI (by omega) (by omega))) (fun z => absurd z (by rw [eR, nI_clamp (by omega), hcm]; decide)) (fun _ => k_X8_backTops_77 (by rw [eR]; exact hh) (Or.inl rfl) hM.g (fun _ => k_X8_backTops_101 (f1 o h' kk)) (fun z => absurd rfl z))), f2, f3⟩
        | true =>
          rw [ho] at hh
          obtain ⟨h1, f1, f2, f3⟩ := fin true (by rw [ecm, hr, ho]; rfl)
          exact ⟨h1, fun o h' kk => ent (fun z => absurd hbit z) (fun _ => k_X8_backTops_60 hM.g hM.r32 hM.g32 (by rw [eR]; exact (vp_in_nI (by omega) (by omega))) (fun z => absurd z (by rw [eR, nI_clamp (by omega), hcm]; decide)) (fun _ => k_X8_backTops_77 (by rw [eR]; exact hh) (Or.inl rfl) hM.g (fun z => absurd z (by decide)) (fun _ => k_X8_backTops_97 (f1 o h' kk)))), f2, f3⟩
    · obtain ⟨h1, f1, f2, f3⟩ := fin false (by unfold cmB; rw [Bool.not_eq_true] at hbit; rw [hbit, Bool.false_and])
      exact ⟨h1, fun o h' kk => ent (fun _ => k_X8_backTops_101 (f1 o h' kk)) (fun z => absurd z hbit), f2, f3⟩
theorem v_backTops {s S l : Nat} {v : Nat → Int64} (hs : s < 8) (hl40 : l ≤ 40) (hpl : popN S ≤ l) {ok : Nat → Nat → Bool} (eok : ok = okB σ.1 l v S) (hS : S < 2 ^ σ.1.length) (hk : stepsOK σ.1.length S ok) : ∀ k b (h : PH), S + 1 - b = k → b ≤ S + 1 → ModH h m → MB h m σ → RowV h m s l v → CmeS h (m + 25) S ok b →
    ∃ h1, J mX8_backTops (d + 3) 5 [some (.ref m), some (.int (nI s)), some (.int (nI S)), some (.int (nI (if S < b then mkN (cmB ok S) σ.1.length else 0))), some (.int (nI b)), none, none] [] h (some (.int (nI (mkN (cmB ok S) σ.1.length)))) h1 ∧ Upf (fun i _ => i = m + 25) h h1 := by
  intro k
  induction k with
  | zero =>
    intro b h hkb hb hM hB hrv hc
    have h256 := pow_le8 hB.n8
    have : b = S + 1 := by omega
    subst this
    rw [if_pos (by omega)]
    exact ⟨h, k_X8_backTops_5 (fun _ => k_X8_backTops_150) (fun z => absurd (nI_lt (by omega) (by omega)) z), Upf.rf⟩
  | succ k ih =>
    intro b h hkb hb hM hB hrv hc
    have h256 := pow_le8 hB.n8
    have hbS : b ≤ S := by omega
    rw [if_neg (by omega)]
    have cb : (nI b).toNatClampNeg = b := nI_clamp (by omega)
    have c0 : b = 0 ↔ nI b = 0 := (nI_eq (b := 0) (by omega) (by omega)).symm
    have U : ∀ v : Int32, Upf (fun i _ => i = m + 25) h (setI h (m + 25) (nI b).toNatClampNeg v) := fun v => Upf.set rfl
    have nxt : ∀ (h2 : PH) (x : Int32), Upf (fun i _ => i = m + 25) h h2 → CmeS h2 (m + 25) S ok (b + 1) → ∃ h1, J mX8_backTops (d + 3) 144 [some (.ref m), some (.int (nI s)), some (.int (nI S)), some (.int (nI (if b = S then mkN (cmB ok S) σ.1.length else 0))), some (.int (nI b)), some (.int x), none] [] h2 (some (.int (nI (mkN (cmB ok S) σ.1.length)))) h1 ∧ Upf (fun i _ => i = m + 25) h h1 := fun h2 x U2 hc2 => by
      obtain ⟨h1, b1, b2⟩ := ih (b + 1) h2 (by omega) (by omega) (hM.keep U2) (hB.keep U2 (fun i k q => by unfold fV at q; omega)) (hrv.keep U2) hc2
      refine ⟨h1, k_X8_backTops_144 ?_, U2.tr b2⟩
      rw [nI_1, show (if b = S then mkN (cmB ok S) σ.1.length else 0) = (if S < b + 1 then mkN (cmB ok S) σ.1.length else 0) by
        by_cases e : b = S
        · rw [if_pos e, if_pos (by omega)]
        · rw [if_neg e, if_neg (by omega)]]
      exact b1
    have ent : ∀ {o : Option Value} {h' : PH}, J mX8_backTops (d + 3) 31 [some (.ref m), some (.int (nI s)), some (.int (nI S)), some (.int (nI 0)), some (.int (nI b)), some (.int 0), none] [] (setI h (m + 25) (nI b).toNatClampNeg (bI (decide (b = 0)))) o h' → J mX8_backTops (d + 3) 5 [some (.ref m), some (.int (nI s)), some (.int (nI S)), some (.int (nI 0)), some (.int (nI b)), none, none] [] h o h' := fun kk => by
      refine k_X8_backTops_5 (fun z => absurd z (nI_nlt hbS (by omega))) (fun _ => k_X8_backTops_11 hM.g hM.r32 (fun z => ?_) (fun z => ?_))
      · rw [decide_eq_false (fun e => z (c0.mp e))] at kk
        exact k_X8_backTops_26 (k_X8_backTops_27 hM.g32 (vp_in_nI (by omega) (by omega)) (Or.inl rfl) kk)
      · rw [decide_eq_true (c0.mpr z)] at kk
        exact k_X8_backTops_22 (k_X8_backTops_27 hM.g32 (vp_in_nI (by omega) (by omega)) (Or.inr rfl) kk)
    have U0 := U (bI (decide (b = 0)))
    have hM2 := hM.keep U0
    have hB2 := hB.keep U0 (fun i k q => by unfold fV at q; omega)
    have hc0 : CmeS (setI h (m + 25) (nI b).toNatClampNeg (bI (decide (b = 0)))) (m + 25) S ok b := fun x h1 h2 => by rw [cb, hI_setI, if_neg (by omega)]; exact hc x h1 h2
    by_cases hsub : subS b S
    · obtain ⟨h2, a1, a2, a3⟩ := v_backTopsIn (d := d) (m := m) (σ := σ) (s := s) (S := S) (b := b) (l := l) (v := v) hs hl40 hpl eok hS hbS hsub hk _ 0 _ rfl (Nat.zero_le _) hM2 hB2 (hrv.keep U0) hc0 (by rw [cb, hI_setI, if_pos ⟨rfl, rfl⟩]; show _ = bI (_ || false); rw [Bool.or_false])
      obtain ⟨h1, b1, b2⟩ := nxt h2 _ (U0.tr a2) a3
      refine ⟨h1, ent ?_, b2⟩
      have := a1 _ _ b1
      rw [show (if b = S then mkN (cmB ok S) 0 else 0) = 0 by split <;> rfl] at this
      exact this
    · have hne : b ≠ S := fun e => hsub (by rw [e]; exact subS_rf)
      obtain ⟨h1, b1, b2⟩ := nxt (setI h (m + 25) (nI b).toNatClampNeg (bI (decide (b = 0)))) 0 U0 (fun x h1 h2 => by
        by_cases e : x = b
        · subst e; exact absurd h2 hsub
        · exact hc0 x (by omega) h2)
      rw [if_neg hne] at b1
      refine ⟨h1, ent ?_, b2⟩
      refine k_X8_backTops_31 hM2.g (fun _ => b1) (fun _ => k_X8_backTops_40 (fun _ => b1) (fun z => absurd ((sub_I (by omega) (by omega)).mp z) hsub))
theorem u_backTops {s S l : Nat} {v : Nat → Int64} (hs : s < 8) (hl40 : l ≤ 40) (hpl : popN S ≤ l) (hS : S < 2 ^ σ.1.length) (hM : ModH h m) (hB : MB h m σ) (hrv : RowV h m s l v) : ∃ h1, JMt mX8_backTops (some .int) (d + 3) [.ref m, .int (nI s), .int (nI S)] h (some (.int (nI (lasts σ.1.length S (okB σ.1 l v S) 0)))) h1 ∧ Upf (fun i _ => i = m + 25) h h1 := by
  have hk := okB_steps (P := σ.1) (m := l) (v := v) hB.n8 hS
  obtain ⟨h1, a1, a2⟩ := v_backTops (d := d) (m := m) (σ := σ) (s := s) (S := S) (l := l) (v := v) hs hl40 hpl rfl hS hk _ 0 h rfl (Nat.zero_le _) hM hB hrv (fun x z => absurd z (Nat.not_lt_zero x))
  rw [if_neg (by omega), lasts_cm hk] at a1
  exact ⟨h1, jm mi_X8_backTops (Nat.le_of_ble_eq_true rfl) ⟨.int, rfl, rfl⟩ rfl (k_X8_backTops_0 a1), a2⟩
theorem v_bfeet {s S l : Nat} {v : Nat → Int64} {x3 x4 x5 : Int32} (hs : s < 8) (hl40 : l ≤ 40) (hpl : popN S ≤ l) (hS : S < 2 ^ σ.1.length) (hM : ModH h m) (hB : MB h m σ) (hrv : RowV h m s l v) (hw : WayS h (m + 283) σ.1.length S (okB σ.1 l v S) 0) : ∀ n j, σ.1.length - j = n → j ≤ σ.1.length → ∀ {o : Option Value} {h' : PH}, J mX8_backs (d + 4) 142 [some (.ref m), some (.int (nI s)), some (.int (nI S)), some (.int x3), some (.int x4), some (.int x5), some (.int (nI (mkN (leadB σ.1.length S (okB σ.1 l v S) 0) σ.1.length))), some (.int (nI σ.1.length))] [] h o h' → J mX8_backs (d + 4) 90 [some (.ref m), some (.int (nI s)), some (.int (nI S)), some (.int x3), some (.int x4), some (.int x5), some (.int (nI (mkN (leadB σ.1.length S (okB σ.1 l v S) 0) j))), some (.int (nI j))] [] h o h' := by
  have n8 := hB.n8
  have h256 := pow_le8 n8
  have hk := okB_steps (P := σ.1) (m := l) (v := v) n8 hS
  intro n
  induction n with
  | zero =>
    intro j hj hl o h' kk
    have : j = σ.1.length := by omega
    subst this
    exact k_X8_backs_90 hM.g (fun _ => kk) (fun q => absurd (by rw [hB.n]; exact nI_le (by omega) (by omega)) q)
  | succ n ih =>
    intro j hj hl o h' kk
    have hjl : j < σ.1.length := by omega
    have hh := u_isTold (d := d + 1) (b := 0) (p := j) hs hl40 hpl hS subS_0 hjl hM hB hrv
    have nx := ih (j + 1) (by omega) (by omega) kk
    rw [mkN_succ] at nx
    have no : leadB σ.1.length S (okB σ.1 l v S) 0 j = false → J mX8_backs (d + 4) 132 [some (.ref m), some (.int (nI s)), some (.int (nI S)), some (.int x3), some (.int x4), some (.int x5), some (.int (nI (mkN (leadB σ.1.length S (okB σ.1 l v S) 0) j))), some (.int (nI j))] [.int (nI (mkN (leadB σ.1.length S (okB σ.1 l v S) 0) j))] h o h' := fun e => by
      rw [if_neg (by rw [e]; decide)] at nx
      refine k_X8_backs_132 (k_X8_backs_133 ?_)
      rw [show (0 : Int32) = nI 0 from rfl, fa_or, Nat.or_zero, nI_1]
      exact nx
    refine k_X8_backs_90 hM.g (fun q => absurd q (by rw [hB.n]; exact nI_ge hjl (by omega))) (fun _ => k_X8_backs_99 hh (Or.inl rfl) hM.g (fun q => no ?_) (fun q => ?_))
    · unfold leadB
      rw [bI_0.mp q]
      rfl
    · have q := bI_n0.mp q
      obtain ⟨t1, -⟩ := hk.2.2 0 j q
      have hsu := subS_or (b := 0) subS_0 t1
      have hwl := ways_lt hk (0 ||| 2 ^ j)
      have p256 := pow_lt256 (p := j) (by omega)
      have e : hI h (m + 283) ((1 : Int32) <<< (nI j &&& 31)).toNatClampNeg = nI (ways σ.1.length S (okB σ.1 l v S) (0 ||| 2 ^ j)) := by
        rw [bitI (by omega), nI_clamp (n := 2 ^ j) (by omega), ← hw _ (Nat.zero_le _) (subS_le hsu) hsu, Nat.zero_or]
      refine k_X8_backs_113 hM.g hM.r34 hM.g34 (by rw [bitI (by omega)]; exact (vp_in_nI (by omega) (by omega))) (fun z => no ?_) (fun z => ?_)
      · rw [e, show (0 : Int32) = nI 0 from rfl, nI_leI (by omega) (by omega)] at z
        unfold leadB
        rw [q, decide_eq_false (by omega)]
        rfl
      · rw [e, show (0 : Int32) = nI 0 from rfl, nI_leI (by omega) (by omega)] at z
        have hl : leadB σ.1.length S (okB σ.1 l v S) 0 j = true := by
          unfold leadB
          rw [q, decide_eq_true (by omega)]
          rfl
        rw [if_pos hl] at nx
        refine k_X8_backs_125 (k_X8_backs_133 ?_)
        rw [bitI (by omega), fa_or, nI_1]
        exact nx
end OG
section OH
variable {d : Nat} {h : PH} {m : Nat} {ko to : Option Nat} {T : TS}
theorem m_backs {s set w : Int32} (hS : MS h m ko to T) : RfQ mX8_backs (d + 10) [.ref m, .int s, .int set, .int w] h m ko to T (q_backs T s set w) := by
  have hS0 := hS
  obtain ⟨hT, hM, hB, hTp, hRf, hSh, hK, hTr⟩ := hS
  obtain ⟨o1, o2, o3, o4, o5, o6⟩ := hT.1
  have n8 := hB.n8
  have l8 := hB.l8
  unfold q_backs
  cases hb : inB s 0 7 with
  | false =>
    rw [Bool.false_and, Bool.false_and, if_neg (by decide)]
    exact mqR (k := 0) (by omega) hS0 (fun h1 r e => jm mi_X8_backs (Nat.le_of_ble_eq_true rfl) ⟨.int, rfl, rfl⟩ rfl (k_X8_backs_0 t_in_0_7 (Or.inl rfl) (fun _ => k_X8_backs_32 r (Or.inl e) hM.g) (fun z => absurd z (by rw [hb]; decide))))
  | true =>
    rw [Bool.true_and]
    cases hb2 : inB set 0 ((2 ^ T.1.1.length : Nat) - 1) with
    | false =>
      rw [Bool.false_and, if_neg (by decide)]
      exact mqR (k := 0) (by omega) hS0 (fun h1 r e => jm mi_X8_backs (Nat.le_of_ble_eq_true rfl) ⟨.int, rfl, rfl⟩ rfl (k_X8_backs_0 t_in_0_7 (Or.inl rfl) (fun z => absurd z (by rw [hb]; decide)) (fun _ => k_X8_backs_12 (u_isSet hM hB) (Or.inl rfl) hM.g (fun _ => k_X8_backs_32 r (Or.inl e) hM.g) (fun z => absurd z (by rw [hb2]; decide)))))
    | true =>
      rw [Bool.true_and]
      cases hb3 : inB w 0 2 with
      | false =>
        rw [if_neg (by decide)]
        exact mqR (k := 0) (by omega) hS0 (fun h1 r e => jm mi_X8_backs (Nat.le_of_ble_eq_true rfl) ⟨.int, rfl, rfl⟩ rfl (k_X8_backs_0 t_in_0_7 (Or.inl rfl) (fun z => absurd z (by rw [hb]; decide)) (fun _ => k_X8_backs_12 (u_isSet hM hB) (Or.inl rfl) hM.g (fun z => absurd z (by rw [hb2]; decide)) (fun _ => k_X8_backs_20 t_in_0_2 (Or.inl rfl) (fun z => absurd z (by rw [hb3]; decide)) (fun _ => k_X8_backs_32 r (Or.inl e) hM.g)))))
      | true =>
        rw [if_pos rfl]
        obtain ⟨v, h1, a1, a2, a3⟩ := u_noRow (d := d + 8) (s := s) hS0
        have ent : ∀ {o : Option Value} {h' : PH}, RetT (some .int) o → (v = 0 → J mX8_backs (d + 10) 55 [some (.ref m), some (.int s), some (.int set), some (.int w), some (.int v), none, none, none] [] h1 o h') → (¬ v = 0 → J mX8_backs (d + 10) 52 [some (.ref m), some (.int s), some (.int set), some (.int w), some (.int v), none, none, none] [] h1 o h') → JMt mX8_backs (some .int) (d + 10) [.ref m, .int s, .int set, .int w] h o h' := fun rt k1 k2 => jm mi_X8_backs (Nat.le_of_ble_eq_true rfl) rt rfl (k_X8_backs_0 t_in_0_7 (Or.inl rfl) (fun z => absurd z (by rw [hb]; decide)) (fun _ => k_X8_backs_12 (u_isSet hM hB) (Or.inl rfl) hM.g (fun z => absurd z (by rw [hb2]; decide)) (fun _ => k_X8_backs_20 t_in_0_2 (Or.inl rfl) (fun _ => k_X8_backs_40 a1 (Or.inl a2) hM.g k1 k2) (fun z => absurd z (by rw [hb3]; decide)))))
        have bad : ∀ k, nrK T s = some k → RfQ mX8_backs (d + 10) [.ref m, .int s, .int set, .int w] h m ko to T (.inl k) := fun k e => by
          rw [e] at a3
          obtain ⟨hk, rfl, b, c⟩ := a3
          have hr : ∀ k, k < 5 → ¬ rfI k = 0 := by decide
          exact ⟨h1, ent ⟨.int, rfl, rfl⟩ (fun y => absurd y (hr k hk)) (fun _ => k_X8_backs_52), b.mono (fun i k y => by unfold fM; omega), c⟩
        unfold nrK at bad a3
        rw [hb, if_pos rfl] at bad a3
        obtain ⟨k, hk, rfl⟩ := inB_nI (n := 7) (by omega) hb
        obtain ⟨S, hS1, rfl, hS2⟩ := setB n8 hb2
        obtain ⟨w, hw, rfl⟩ := inB_nI (n := 2) (by omega) hb3
        rw [shfA_in (by omega)] at bad a3 ⊢
        rw [nn_I (by omega), nn_I (by omega)]
        have hq := hSh k (by omega)
        have ci : (nI k).toNatClampNeg = k := nI_clamp (by omega)
        generalize T.2.2.1 k = q at hq bad a3
        match q, hq, bad, a3 with
        | none, q1, bad, a3 => exact bad 2 rfl
        | some (.inl p), q1, bad, a3 => exact bad 1 rfl
        | some (.inr (sort, l, v')), ⟨q1, q2, q3, q4, q5, q6⟩, bad, a3 =>
          obtain ⟨rfl, rfl⟩ := a3
          dsimp only
          have hp8 := popN_le S
          by_cases hpl : popN S ≤ l
          · rw [if_pos hpl]
            obtain ⟨h2, b1, b2, b3⟩ := u_findBacks (d := d + 6) (s := k) (by omega) q4 hpl hS1 hM hB q6
            have hM2 := hM.keep b2
            have hB2 := hB.keep b2 k283
            have hrv2 : RowV h2 m k l v' := RowV.keep q6 b2
            have ent2 : ∀ {o : Option Value} {h' : PH}, RetT (some .int) o → J mX8_backs (d + 10) 142 [some (.ref m), some (.int (nI k)), some (.int (nI S)), some (.int (nI w)), some (.int 0), some (.int (nI (ways T.1.1.length S (okB T.1.1 l v' S) 0))), some (.int (nI (mkN (leadB T.1.1.length S (okB T.1.1 l v' S) 0) T.1.1.length))), some (.int (nI T.1.1.length))] [] h2 o h' → JMt mX8_backs (some .int) (d + 10) [.ref m, .int (nI k), .int (nI S), .int (nI w)] h1 o h' := fun rt kk => ent rt (fun _ => k_X8_backs_55 hM.g hM.r2 hM.g2 (vp_in_nI (by omega) (by omega)) (u_bits hS2) (Or.inl rfl) (fun _ => k_X8_backs_76 b1 (Or.inl b2.1) hM.g (v_bfeet (d := d + 6) (by omega) q4 hpl hS1 hM2 hB2 hrv2 b3 _ 0 rfl (Nat.zero_le _) kk)) (fun z => absurd (by rw [ci, q3]; exact nI_le hpl (by omega)) z)) (fun z => absurd rfl z)
            rcases le2 hw with rfl | rfl | rfl
            · rw [if_pos rfl]
              exact mqV hS0 ⟨h2, ent2 ⟨.int, rfl, rfl⟩ (k_X8_backs_142 (fun z => absurd rfl z) (fun _ => k_X8_backs_146 k_X8_backs_167)), b2.mono (fun i k => f283), hB2⟩
            · rw [if_neg (by decide), if_pos rfl]
              exact mqV hS0 ⟨h2, ent2 ⟨.int, rfl, rfl⟩ (k_X8_backs_142 (fun _ => k_X8_backs_151 (fun z => absurd rfl z) (fun _ => k_X8_backs_156 k_X8_backs_167)) (fun z => absurd z (by decide))), b2.mono (fun i k => f283), hB2⟩
            · rw [if_neg (by decide), if_neg (by decide)]
              obtain ⟨h3, c1, c2⟩ := u_backTops (d := d + 6) (s := k) (by omega) q4 hpl hS1 hM2 hB2 hrv2
              exact mqV hS0 ⟨h3, ent2 ⟨.int, rfl, rfl⟩ (k_X8_backs_142 (fun _ => k_X8_backs_151 (fun _ => k_X8_backs_161 c1 (Or.inl c2.1) hM2.g k_X8_backs_167) (fun z => absurd z (by decide))) (fun z => absurd z (by decide))), (b2.mono (fun i k => f283)).tr (c2.mono (fun i k => f25)), hB2.keep c2 k25⟩
          · rw [if_neg hpl]
            exact mqR (k := 0) (by omega) hS0 (fun h2 r e => ent ⟨.int, rfl, rfl⟩ (fun _ => k_X8_backs_55 hM.g hM.r2 hM.g2 (vp_in_nI (by omega) (by omega)) (u_bits hS2) (Or.inl rfl) (fun z => absurd z (by rw [ci, q3]; exact nI_ge (by omega) (by omega))) (fun _ => k_X8_backs_68 r (Or.inl e) hM.g)) (fun z => absurd rfl z))
end OH
