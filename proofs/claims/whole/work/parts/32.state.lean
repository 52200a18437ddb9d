/-! the Reader: a person, a statement, the whole tape -/
theorem getD_snoc {us : List Nat} {v j : Nat} : (us ++ [v]).getD j 0 = if j < us.length then us.getD j 0 else if j = us.length then v else 0 := by
  simp only [List.getD_eq_getElem?_getD]
  by_cases h1 : j < us.length
  · rw [if_pos h1, List.getElem?_append_left h1]
  · rw [if_neg h1, List.getElem?_append_right (by omega)]
    by_cases h2 : j = us.length
    · rw [if_pos h2, h2, Nat.sub_self]; rfl
    · rw [if_neg h2, show j - us.length = (j - us.length - 1) + 1 by omega]; rfl
theorem okP_told {us : List Nat} (h : ∀ j, j < 5 → mayB j (us.getD j 0 : Int) = true) : okP (tupP us) := by
  have e0 := of_decide_eq_true (h 0 (by omega))
  have e1 := of_decide_eq_true (h 1 (by omega))
  have e2 := of_decide_eq_true (h 2 (by omega))
  have e3 := of_decide_eq_true (h 3 (by omega))
  have e4 := of_decide_eq_true (h 4 (by omega))
  simp only [loT, hiT] at e0 e1 e2 e3 e4
  refine ⟨?_, ?_, ⟨?_, ?_⟩, ?_, ?_⟩
  · show us.getD 0 0 ≤ 5
    simp at e0; simp; omega
  · show us.getD 1 0 ≤ 9
    simp at e1; simp; omega
  · show 1 ≤ us.getD 2 0
    simp at e2; simp; omega
  · show us.getD 2 0 ≤ 40
    simp at e2; simp; omega
  · show us.getD 3 0 ≤ 99
    simp at e3; simp; omega
  · show us.getD 4 0 ≤ 40
    simp at e4; simp; omega
/-- told values kept, each within its bounds -/
theorem pnF_ok {B : List Nat} : ∀ m what k us, what + m = 5 → us.length = what → (∀ j, j < what → mayB j (us.getD j 0 : Int) = true) → tokOK B k → tokOK B (pnF B m what k us).2.1 ∧ ((pnF B m what k us).1 = true → ∀ j, j < 5 → mayB j ((pnF B m what k us).2.2.getD j 0 : Int) = true)
  | 0, what, k, us, h1, h2, h3, h4 => ⟨h4, fun _ j hj => h3 j (by omega)⟩
  | m + 1, what, k, us, h1, h2, h3, h4 => by
    have h5 := (tokF_ok h4.2.1).1
    unfold pnF
    split
    · exact ⟨h5, fun z => by cases z⟩
    · rename_i v hv
      split
      · rename_i hm
        refine pnF_ok m (what + 1) _ _ (by omega) (by rw [List.length_append, h2]; rfl) (fun j hj => ?_) h5
        rw [getD_snoc]
        by_cases e : j < us.length
        · rw [if_pos e]; exact h3 j (by omega)
        · rw [if_neg e, if_pos (by omega), show j = what by omega]; exact hm
      · exact ⟨h5, fun z => by cases z⟩
theorem tok_tel {B : List Nat} {k : Tok} {what : Nat} {σ : WS} (hk : tokOK B k) : tokOK B (telF B k what σ).2.1 := by
  have h5 := (tokF_ok hk.2.1).1
  unfold telF
  split
  · exact h5
  · split
    · exact h5
    · exact h5
theorem tok_clm {B : List Nat} {k : Tok} {σ : WS} (hk : tokOK B k) : tokOK B (clmF B k σ).2.1 := by
  have h5 := (tokF_ok hk.2.1).1
  unfold clmF
  split
  · split
    · exact h5
    · split
      · exact h5
      · exact h5
  · exact hk
theorem tok_per {B : List Nat} {k : Tok} {σ : WS} (hk : tokOK B k) : tokOK B (perF B k σ).2.1 := by
  have h5 := (pnF_ok 5 0 k [] rfl rfl (fun j hj => absurd hj (Nat.not_lt_zero j)) hk).1
  unfold perF
  split
  · split
    · exact h5
    · exact h5
  · exact hk
theorem tok_st {B : List Nat} {k : Tok} {σ : WS} (hk : tokOK B k) : tokOK B (stF B k σ).2.1 := by
  unfold stF
  split
  · exact tok_per hk
  · split
    · exact tok_clm hk
    · split
      · exact hk
      · split
        · exact tok_tel hk
        · split
          · exact tok_tel hk
          · split
            · exact tok_tel hk
            · exact hk
section RP
variable {d : Nat} {h : PH} {r q t l w : Nat} {B : List Nat}
/-- five numbers told -/
theorem l_person {a : Nat} (hqt : q ≠ t ∧ q ≠ l) : ∀ m what (h : PH) k us, what + m = 5 → us.length = what → (∀ j, j < what → hI h q j = nI (us.getD j 0)) → ReadS h r q t k → TapeS h t l B → tokOK B k →
    ∃ h1, ((pnF B m what k us).1 = false → J mX3_didPerson (d + 3) 14 [some (.ref r), some (.ref a), some (.int (nI what)), none] [] h (some (.int 0)) h1) ∧ ((pnF B m what k us).1 = true → ∀ o h', J mX3_didPerson (d + 3) 58 [some (.ref r), some (.ref a), some (.int (nI 5)), none] [] h1 o h' → J mX3_didPerson (d + 3) 14 [some (.ref r), some (.ref a), some (.int (nI what)), none] [] h o h') ∧ Upd (pc2 r q) h h1 ∧ ReadS h1 r q t (pnF B m what k us).2.1 ∧ ((pnF B m what k us).1 = true → ∀ j, j < 5 → hI h1 q j = nI ((pnF B m what k us).2.2.getD j 0)) := by
  intro m
  induction m with
  | zero =>
    intro what h k us h1 h2 h3 hR hT hk
    have : what = 5 := by omega
    subst this
    exact ⟨h, fun z => (by cases z), fun _ o h' kk => k_X3_didPerson_14 (fun _ => kk) (fun z => absurd (Int32.le_refl _) z), Upd.rf, hR, fun _ => h3⟩
  | succ m ih =>
    intro what h k us h1 h2 h3 hR hT hk
    obtain ⟨g1, s1, s2, s3, s4, s5⟩ := t_next (d := d) hR hT hk
    have hN := t_number (d := d) s3 s4 s5
    have hlt := fun v => numF_lt (v := v) s5
    have hw5 : what < 5 := by omega
    have ent : ∀ {o : Option Value} {h' : PH} {v7 : Int32}, JMt mX3_number (some .int) (d + 2) [.ref r] g1 (some (.int v7)) g1 → (v7 = -1 → J mX3_didPerson (d + 3) 41 [some (.ref r), some (.ref a), some (.int (nI what)), some (.int v7)] [] g1 o h') → (¬ v7 = -1 → J mX3_didPerson (d + 3) 33 [some (.ref r), some (.ref a), some (.int (nI what)), some (.int v7)] [] g1 o h') → J mX3_didPerson (d + 3) 14 [some (.ref r), some (.ref a), some (.int (nI what)), none] [] h o h' := fun hN k1 k2 =>
      k_X3_didPerson_14 (fun z => absurd z (nI_ge (b := 5) hw5 (by omega))) (fun _ => k_X3_didPerson_19 s1 (Or.inl s2.1) hR.1.1 hN (Or.inl rfl) s3.1.1 k1 k2)
    have hU1 : Upd (pc2 r q) h g1 := s2.mono (fun i z => Or.inl z)
    unfold pnF
    cases hv : numF B (tokF B k.2.2) with
    | none =>
      rw [hv] at hN
      dsimp only
      exact ⟨g1, fun _ => ent hN (fun _ => k_X3_didPerson_41) (fun z => absurd rfl z), fun z => (by cases z), hU1, s3, fun z => (by cases z)⟩
    | some v =>
      rw [hv] at hN
      dsimp only
      have hv3 := hlt v hv
      have hM := t_mayBe (d := d + 1) (h := g1) (k := what) (v := nI v) hw5
      rw [nI_toInt (by omega)] at hM
      cases hb : mayB what (v : Int) with
      | false =>
        rw [hb] at hM
        rw [if_neg (by decide)]
        exact ⟨g1, fun _ => ent hN (fun z => absurd z (nI_nneg1 (by omega))) (fun _ => k_X3_didPerson_33 hM (Or.inl rfl) (fun z => absurd rfl z) (fun _ => k_X3_didPerson_41)), fun z => (by cases z), hU1, s3, fun z => (by cases z)⟩
      | true =>
        rw [hb] at hM
        rw [if_pos rfl]
        have hp : JMt mX7_put none (d + 2) [.ref q, .int (nI what), .int (nI v)] g1 none (setI g1 q what (nI v)) := t_put s3.1.2.2.2 (by omega) hw5
        have hU2 : Upd (fun i => i = q) g1 (setI g1 q what (nI v)) := Upd.set rfl
        have hne := read_ne s3.1 s4
        have hR2 := s3.keep hU2 (fun z => hne.2.2 z.symm)
        have hT2 := s4.keep hU2 (fun z => hqt.1 z.symm) (fun z => hqt.2 z.symm)
        have eq1 : hI g1 q = hI h q := s2.2.2.2.2.2 q hne.2.2
        obtain ⟨g3, i1, i2, i3, i4, i5⟩ := ih (what + 1) (setI g1 q what (nI v)) (tokF B k.2.2) (us ++ [v]) (by omega) (by rw [List.length_append, h2]; rfl) (fun j hj => by
          rw [hI_setI, getD_snoc]
          by_cases e : j = what
          · rw [if_pos ⟨rfl, e⟩, if_neg (by omega), if_pos (by omega)]
          · rw [if_neg (fun z => e z.2), if_pos (by omega), eq1]; exact h3 j (by omega)) hR2 hT2 s5
        have step : ∀ {o : Option Value} {h' : PH}, J mX3_didPerson (d + 3) 14 [some (.ref r), some (.ref a), some (.int (nI (what + 1))), none] [] (setI g1 q what (nI v)) o h' → J mX3_didPerson (d + 3) 14 [some (.ref r), some (.ref a), some (.int (nI what)), none] [] h o h' := fun kk =>
          ent hN (fun z => absurd z (nI_nneg1 (by omega))) (fun _ => k_X3_didPerson_33 hM (Or.inl rfl) (fun _ => k_X3_didPerson_43 s3.1.1 s3.1.2.2.1 hp (Or.inl rfl) (by rw [nI_1]; exact kk)) (fun z => absurd z (by decide)))
        exact ⟨g3, fun z => step (i1 z), fun z o h' kk => step (i2 z o h' kk), (hU1.tr (hU2.mono (fun i z => Or.inr z))).tr i3, i4, i5⟩
theorem t_didPerson {k : Tok} {σ : WS} (hqt : q ≠ t ∧ q ≠ l) (hR : ReadS h r q t k) (hT : TapeS h t l B) (hk : tokOK B k) (hW : WorldS h w σ) (sr : ¬ inW w r) (sq : ¬ inW w q) : ∃ h', JMt mX3_didPerson (some .boolean) (d + 4) [.ref r, .ref w] h (some (.int (bI (perF B k σ).1))) h' ∧ Upd (rdw r q w) h h' ∧ ReadS h' r q t (perF B k σ).2.1 ∧ WorldS h' w (perF B k σ).2.2 := by
  have hW0 := hW
  obtain ⟨w1, w2, w3, w4, w5, w6, w7, w8, w9, w10⟩ := hW
  have hF := t_isFull (d := d + 3) w4
  unfold perF
  by_cases hp : σ.1.length < 8
  · rw [if_pos hp] at hF
    rw [if_pos hp]
    obtain ⟨h1, i1, i2, i3, i4, i5⟩ := l_person (d := d + 1) (a := w) hqt 5 0 h k [] rfl rfl (fun j hj => absurd hj (Nat.not_lt_zero j)) hR hT hk
    have hok := pnF_ok 5 0 k [] rfl rfl (fun j hj => absurd hj (Nat.not_lt_zero j)) hk
    have hU1 : Upd (rdw r q w) h h1 := i3.mono (fun i z => z.elim Or.inl (fun y => Or.inr (Or.inl y)))
    have hW1 := hW0.keep i3 (fun i z e => e.elim (fun y => sr (by rw [← y]; exact z)) (fun y => sq (by rw [← y]; exact z)))
    cases hb : (pnF B 5 0 k []).1 with
    | false =>
      rw [if_neg (by decide)]
      exact ⟨h1, jm mi_X3_didPerson (Nat.le_of_ble_eq_true rfl) rB rfl (k_X3_didPerson_0 w1 w2 hF (Or.inl rfl) w4.1 (fun _ => k_X3_didPerson_12 (i1 hb)) (fun z => absurd rfl z)), hU1, i4, hW1⟩
    | true =>
      rw [if_pos rfl]
      have tq := i4.1.2.2.2
      have hv := i5 hb
      have pk : ∀ (j : Nat), j < 5 → JMt mX7_pick (some .int) (d + 3) [.ref q, .int (nI j)] h1 (some (.int (nI ((pnF B 5 0 k []).2.2.getD j 0)))) h1 := fun j hj => by
        rw [← hv j hj]; exact t_pick tq (by omega) hj
      obtain ⟨h2, c1, c2, c3⟩ := t_join (d := d) hW1.2.2.2.1 hp (okP_told (hok.2 hb))
      have c2' : Upd (inW w) h1 h2 := c2.mono (fun i z => by unfold pc1 at z; unfold inW; omega)
      have r1 := i4.1.1
      have r2 := i4.1.2.2.1
      refine ⟨h2, jm mi_X3_didPerson (Nat.le_of_ble_eq_true rfl) rB rfl (k_X3_didPerson_0 w1 w2 hF (Or.inl rfl) w4.1 (fun _ => k_X3_didPerson_12 (i2 hb _ _ ?_)) (fun z => absurd rfl z)), hU1.tr (c2'.mono (fun i z => Or.inr (Or.inr z))), i4.keep c2' sr, hW1.crowd c2 c3⟩
      exact k_X3_didPerson_58 hW1.1 hW1.2.1 r1 r2 (pk 0 (by omega)) (Or.inl rfl) r1 r2 (pk 1 (by omega)) (Or.inl rfl) r1 r2 (pk 2 (by omega)) (Or.inl rfl) r1 r2 (pk 3 (by omega)) (Or.inl rfl) r1 r2 (pk 4 (by omega)) (Or.inl rfl) c1 (Or.inl c2.1) hW1.2.2.2.1.1
  · rw [if_neg hp] at hF
    rw [if_neg hp]
    exact ⟨h, jm mi_X3_didPerson (Nat.le_of_ble_eq_true rfl) rB rfl (k_X3_didPerson_0 w1 w2 hF (Or.inl rfl) w4.1 (fun z => absurd z (by decide)) (fun _ => k_X3_didPerson_10)), Upd.rf, hR, hW0⟩
theorem t_didStatement {k : Tok} {σ : WS} (hqt : q ≠ t ∧ q ≠ l) (hR : ReadS h r q t k) (hT : TapeS h t l B) (hk : tokOK B k) (hW : WorldS h w σ) (ho : okW σ) (sr : ¬ inW w r) (sq : ¬ inW w q) : ∃ h', JMt mX3_didStatement (some .boolean) (d + 5) [.ref r, .ref w] h (some (.int (bI (stF B k σ).1))) h' ∧ Upd (rdw r q w) h h' ∧ ReadS h' r q t (stF B k σ).2.1 ∧ WorldS h' w (stF B k σ).2.2 := by
  have wd : ∀ i, i < 12 → JMt mX3_isWord (some .boolean) (d + 4) [.ref r, .retAddr (6 + i)] h (some (.int (bI (wordB B k i)))) h := fun i hi => t_isWord (d := d) hi hR hT hk
  have no : ∀ {b : Bool}, b = false → ∀ {P : Prop}, ¬ bI b = 0 → P := fun e _ z => absurd (by rw [e]; rfl) z
  have ye : ∀ {b : Bool}, b = true → ∀ {P : Prop}, bI b = 0 → P := fun e _ z => absurd z (by rw [e]; decide)
  have g := hR.1.1
  have ent : ∀ {b : Bool} {h' : PH}, J mX3_didStatement (d + 5) 0 [some (.ref r), some (.ref w)] [] h (some (.int (bI b))) h' → JMt mX3_didStatement (some .boolean) (d + 5) [.ref r, .ref w] h (some (.int (bI b))) h' := fun kk => jm mi_X3_didStatement (Nat.le_of_ble_eq_true rfl) rB rfl kk
  unfold stF
  cases b0 : wordB B k 0 with
  | true =>
    rw [if_pos rfl]
    obtain ⟨h1, c1, c2⟩ := t_didPerson (d := d) hqt hR hT hk hW sr sq
    exact ⟨h1, ent (k_X3_didStatement_0 (wd 0 (by omega)) (Or.inl rfl) g (ye b0) (fun _ => k_X3_didStatement_9 c1 (Or.inl c2.1.1) g)), c2⟩
  | false =>
    rw [if_neg (by decide)]
    cases b1 : wordB B k 1 with
    | true =>
      rw [if_pos rfl]
      obtain ⟨h1, c1, c2⟩ := t_didClimb (q := q) (d := d + 1) hR hT hk hW ho sr
      exact ⟨h1, ent (k_X3_didStatement_0 (wd 0 (by omega)) (Or.inl rfl) g (fun _ => k_X3_didStatement_15 (wd 1 (by omega)) (Or.inl rfl) g (ye b1) (fun _ => k_X3_didStatement_24 c1 (Or.inl c2.1.1) g)) (no b0)), c2⟩
    | false =>
      rw [if_neg (by decide)]
      cases b2 : wordB B k 2 with
      | true =>
        rw [if_pos rfl]
        obtain ⟨h1, c1, c2, c3⟩ := t_clear (d := d + 4) hW.2.2.2.2.1
        have c2' : Upd (inW w) h h1 := c2.mono (fun i z => by unfold pc2 at z; unfold inW; omega)
        exact ⟨h1, ent (b := true) (k_X3_didStatement_0 (wd 0 (by omega)) (Or.inl rfl) g (fun _ => k_X3_didStatement_15 (wd 1 (by omega)) (Or.inl rfl) g (fun _ => k_X3_didStatement_30 (wd 2 (by omega)) (Or.inl rfl) g (ye b2) (fun _ => k_X3_didStatement_39 hW.1 hW.2.2.1 c1 (Or.inl c2.1) hW.2.2.2.2.1.1)) (no b1)) (no b0)), c2'.mono (fun i z => Or.inr (Or.inr z)), hR.keep c2' sr, hW.pile c2 c3⟩
      | false =>
        rw [if_neg (by decide)]
        cases b3 : wordB B k 3 with
        | true =>
          rw [if_pos rfl]
          obtain ⟨h1, c1, c2⟩ := t_didTell (q := q) (d := d + 1) (what := 0) (by omega) hR hT hk hW sr
          exact ⟨h1, ent (k_X3_didStatement_0 (wd 0 (by omega)) (Or.inl rfl) g (fun _ => k_X3_didStatement_15 (wd 1 (by omega)) (Or.inl rfl) g (fun _ => k_X3_didStatement_30 (wd 2 (by omega)) (Or.inl rfl) g (fun _ => k_X3_didStatement_48 (wd 3 (by omega)) (Or.inl rfl) g (ye b3) (fun _ => k_X3_didStatement_57 c1 (Or.inl c2.1.1) g)) (no b2)) (no b1)) (no b0)), c2⟩
        | false =>
          rw [if_neg (by decide)]
          cases b4 : wordB B k 4 with
          | true =>
            rw [if_pos rfl]
            obtain ⟨h1, c1, c2⟩ := t_didTell (q := q) (d := d + 1) (what := 1) (by omega) hR hT hk hW sr
            exact ⟨h1, ent (k_X3_didStatement_0 (wd 0 (by omega)) (Or.inl rfl) g (fun _ => k_X3_didStatement_15 (wd 1 (by omega)) (Or.inl rfl) g (fun _ => k_X3_didStatement_30 (wd 2 (by omega)) (Or.inl rfl) g (fun _ => k_X3_didStatement_48 (wd 3 (by omega)) (Or.inl rfl) g (fun _ => k_X3_didStatement_64 (wd 4 (by omega)) (Or.inl rfl) g (ye b4) (fun _ => k_X3_didStatement_73 c1 (Or.inl c2.1.1) g)) (no b3)) (no b2)) (no b1)) (no b0)), c2⟩
          | false =>
            rw [if_neg (by decide)]
            cases b5 : wordB B k 5 with
            | true =>
              rw [if_pos rfl]
              obtain ⟨h1, c1, c2⟩ := t_didTell (q := q) (d := d + 1) (what := 2) (by omega) hR hT hk hW sr
              refine ⟨h1, ent (k_X3_didStatement_0 (wd 0 (by omega)) (Or.inl rfl) g (fun _ => k_X3_didStatement_15 (wd 1 (by omega)) (Or.inl rfl) g (fun _ => k_X3_didStatement_30 (wd 2 (by omega)) (Or.inl rfl) g (fun _ => k_X3_didStatement_48 (wd 3 (by omega)) (Or.inl rfl) g (fun _ => k_X3_didStatement_64 (wd 4 (by omega)) (Or.inl rfl) g (fun _ => k_X3_didStatement_80 (wd 5 (by omega)) (Or.inl rfl) g (ye b5) (fun _ => k_X3_didStatement_89 c1 (Or.inl c2.1.1) g (fun z => ?_) (fun z => ?_))) (no b4)) (no b3)) (no b2)) (no b1)) (no b0)), c2⟩
              · rw [bI_0.mp z]; exact k_X3_didStatement_102 k_X3_didStatement_103
              · rw [bI_n0.mp z]; exact k_X3_didStatement_98 k_X3_didStatement_103
            | false =>
              rw [if_neg (by decide)]
              exact ⟨h, ent (b := false) (k_X3_didStatement_0 (wd 0 (by omega)) (Or.inl rfl) g (fun _ => k_X3_didStatement_15 (wd 1 (by omega)) (Or.inl rfl) g (fun _ => k_X3_didStatement_30 (wd 2 (by omega)) (Or.inl rfl) g (fun _ => k_X3_didStatement_48 (wd 3 (by omega)) (Or.inl rfl) g (fun _ => k_X3_didStatement_64 (wd 4 (by omega)) (Or.inl rfl) g (fun _ => k_X3_didStatement_80 (wd 5 (by omega)) (Or.inl rfl) g (fun _ => k_X3_didStatement_102 k_X3_didStatement_103) (no b5)) (no b4)) (no b3)) (no b2)) (no b1)) (no b0)), Upd.rf, hR, hW⟩
theorem fault_nI {k : Nat} : (-2000 : Int32) - nI k = sI (-2000 - (k : Int)) := by rw [show (-2000 : Int32) = sI (-2000) by decide, nI_sI, sI_sub]
theorem l_read (hqt : q ≠ t ∧ q ≠ l) (sr : ¬ inW w r) (sq : ¬ inW w q) (st : ¬ inW w t) (sl : ¬ inW w l) : ∀ f count (h : PH) k σ, count + f = 251 → ReadS h r q t k → TapeS h t l B → tokOK B k → WorldS h w σ → okW σ →
    ∃ h', J mX3_read (d + 6) 11 [some (.ref r), some (.ref w), some (.int (nI count))] [] h (some (.int (sI (readF B f count k σ).1))) h' ∧ Upd (rdw r q w) h h' ∧ ReadT h' r q t ∧ WorldS h' w (readF B f count k σ).2 ∧ okW (readF B f count k σ).2 := by
  intro f
  induction f with
  | zero =>
    intro count h k σ hc hR hT hk hW ho
    have g := hR.1.1
    refine ⟨h, k_X3_read_11 (fun _ => ?_) (fun z => absurd (nI_lt (a := 250) (b := count) (by omega) (by omega)) z), Upd.rf, hR.1, hW, ho⟩
    have := k_X3_read_75 (d := d + 6) (a1 := w) (a2 := nI count) g
    rw [hR.2.2.1, fault_nI] at this
    exact this
  | succ f ih =>
    intro count h k σ hc hR hT hk hW ho
    have g := hR.1.1
    obtain ⟨h1, c1, c2, c3, c4⟩ := t_didStatement (d := d) hqt hR hT hk hW ho sr sq
    have hk1 := tok_st (σ := σ) hk
    have ho1 := okW_st (B := B) (k := k) ho
    have g1 := c3.1.1
    have hne := read_ne hR.1 hT
    have hT1 := hT.keep c2 (fun z => z.elim hne.1 (fun z => z.elim (fun z => hqt.1 z.symm) st)) (fun z => z.elim hne.2.1 (fun z => z.elim (fun z => hqt.2 z.symm) sl))
    have ent : ∀ {o : Option Value} {h' : PH}, J mX3_read (d + 6) 18 [some (.ref r), some (.ref w), some (.int (nI count))] [] h o h' → J mX3_read (d + 6) 11 [some (.ref r), some (.ref w), some (.int (nI count))] [] h o h' := fun kk =>
      k_X3_read_11 (fun z => absurd z (nI_nlt (a := 250) (b := count) (by omega) (by omega))) (fun _ => kk)
    unfold readF
    cases hb : (stF B k σ).1 with
    | false =>
      rw [hb] at c1
      rw [if_neg (by decide)]
      have fin := k_X3_read_26 (d := d + 6) (a1 := w) (a2 := nI count) g1
      rw [c3.2.2.1, fault_nI] at fin
      exact ⟨h1, ent (k_X3_read_18 c1 (Or.inl c2.1) g (fun z => absurd rfl z) (fun _ => fin)), c2, c3.1, c4, ho1⟩
    | true =>
      rw [hb] at c1
      rw [if_pos rfl]
      obtain ⟨h2, s1, s2, s3, s4, s5⟩ := t_next (d := d + 3) c3 hT1 hk1
      have hU2 : Upd (rdw r q w) h h2 := c2.tr (s2.mono (fun i z => Or.inl z))
      have hW2 := c4.keep s2 (fun i z e => sr (by rw [← e]; exact z))
      have g2 := s3.1.1
      have e2 := s3.2.1
      have k4 := s5.2.2.2.2
      by_cases hz0 : (tokF B (stF B k σ).2.1.2.2).1 = 0
      · rw [if_pos hz0]
        refine ⟨h2, ent (k_X3_read_18 c1 (Or.inl c2.1) g (fun _ => k_X3_read_35 s1 (Or.inl s2.1) g1 g2 (fun z => absurd (by rw [e2, hz0]; rfl) z) (fun _ => ?_)) (fun z => absurd z (by decide))), hU2, s3.1, hW2, ho1⟩
        show J _ _ _ _ _ _ (some (.int (sI (count : Int)))) _
        rw [← nI_sI]
        exact k_X3_read_46
      · rw [if_neg hz0]
        by_cases hz3 : (tokF B (stF B k σ).2.1.2.2).1 = 3
        · rw [if_pos hz3]
          obtain ⟨h3, u1, u2, u3, u4, u5⟩ := t_next (d := d + 3) s3 s4 s5
          have hW3 := hW2.keep u2 (fun i z e => sr (by rw [← e]; exact z))
          obtain ⟨h4, i1, i2, i3, i4, i5⟩ := ih (count + 1) h3 _ _ (by omega) u3 u4 u5 hW3 ho1
          refine ⟨h4, ent (k_X3_read_18 c1 (Or.inl c2.1) g (fun _ => k_X3_read_35 s1 (Or.inl s2.1) g1 g2 (fun _ => k_X3_read_48 g2 (fun _ => k_X3_read_65 u1 (Or.inl u2.1) g2 ?_) (fun z => absurd (by rw [e2, hz3]; rfl) z)) (fun z => absurd ((nI_eq (b := 0) (by omega) (by omega)).mp (e2.symm.trans z)) hz0)) (fun z => absurd z (by decide))), (hU2.tr (u2.mono (fun i z => Or.inl z))).tr i2, i3, i4, i5⟩
          rw [nI_1]
          exact i1
        · rw [if_neg hz3]
          have fin := k_X3_read_56 (d := d + 6) (a1 := w) (a2 := nI count) g2
          rw [s3.2.2.1, fault_nI] at fin
          exact ⟨h2, ent (k_X3_read_18 c1 (Or.inl c2.1) g (fun _ => k_X3_read_35 s1 (Or.inl s2.1) g1 g2 (fun _ => k_X3_read_48 g2 (fun z => absurd ((nI_eq (b := 3) (by omega) (by omega)).mp (e2.symm.trans z)) hz3) (fun _ => fin)) (fun z => absurd ((nI_eq (b := 0) (by omega) (by omega)).mp (e2.symm.trans z)) hz0)) (fun z => absurd z (by decide))), hU2, s3.1, hW2, ho1⟩
def readA (B : List Nat) (σ : WS) : Int × WS := readF B 250 1 (tokF B 0) σ
theorem t_read {σ : WS} (hqt : q ≠ t ∧ q ≠ l) (sr : ¬ inW w r) (sq : ¬ inW w q) (st : ¬ inW w t) (sl : ¬ inW w l) (hR : ReadT h r q t) (hT : TapeS h t l B) (hW : WorldS h w σ) (ho : okW σ) : ∃ h', JMt mX3_read (some .int) (d + 6) [.ref r, .ref w] h (some (.int (sI (readA B σ).1))) h' ∧ Upd (rdw r q w) h h' ∧ ReadT h' r q t ∧ WorldS h' w (readA B σ).2 ∧ okW (readA B σ).2 := by
  have hne := read_ne hR hT
  have hU0 : Upd (fun i => i = r) h (setI h r 4 0) := Upd.set rfl
  obtain ⟨h1, s1, s2, s3⟩ := t_step (d := d + 3) (i := 0) (hR.keep hU0) (hT.keep hU0 hne.1 hne.2.1) (by rw [hI_setI, if_pos ⟨rfl, rfl⟩]; rfl) (Nat.zero_le _)
  have U1 := hU0.tr s2
  obtain ⟨h2, c1, c2, c3, c4, c5⟩ := l_read (d := d) hqt sr sq st sl 250 1 h1 (tokF B 0) σ rfl s3 (hT.keep U1 hne.1 hne.2.1) (tokF_ok (Nat.zero_le _)).1 (hW.keep U1 (fun i z e => sr (by rw [← e]; exact z))) ho
  exact ⟨h2, jm mi_X3_read (Nat.le_of_ble_eq_true rfl) ⟨.int, rfl, rfl⟩ rfl (k_X3_read_0 hR.1 s1 (Or.inl s2.1) c1), (U1.mono (fun i z => Or.inl z)).tr c2, c3, c4, c5⟩
end RP
