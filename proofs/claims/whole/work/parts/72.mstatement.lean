/-! the reference: a statement, the whole tape -/
theorem OutR.mk1 {h h1 : PH} {m : Nat} {B : List Nat} {k : Tok} {σ : WS} (a : Upf (fW m) h h1) (hB : MB h1 m σ) (hR : LookR h1 m B (tokF B k.2.2)) : OutR h h1 m B (true, k, σ) := ⟨a, hB, fun _ => hR, fun z => (by cases z)⟩
section RS
variable {d : Nat} {h : PH} {m : Nat} {B : List Nat} {σ : WS}
/-- how a statement is found -/
theorem u_finds {k : Tok} {o : Option Value} {h' : PH} (hk : tokOK B k) (hM : ModH h m) (hT : MT h m B) (hB : MB h m σ) (hR : LookR h m B k) (rt : RetT (some .boolean) o)
    (c0 : wordB B k 0 = true → σ.1.length < 8 → J mX8_statement (d + 5) 18 [some (.ref m), none] [] h o h')
    (c1 : wordB B k 1 = true → σ.2.1.length < σ.2.2.2.1 → J mX8_statement (d + 5) 43 [some (.ref m), none] [] h o h')
    (c2 : wordB B k 2 = true → J mX8_statement (d + 5) 57 [some (.ref m), none] [] h o h')
    (c3 : wordB B k 3 = true → J mX8_statement (d + 5) 77 [some (.ref m), none] [] h o h')
    (c4 : wordB B k 4 = true → J mX8_statement (d + 5) 117 [some (.ref m), none] [] h o h')
    (c5 : wordB B k 5 = true → J mX8_statement (d + 5) 160 [some (.ref m), none] [] h o h')
    (c6 : (wordB B k 0 = true ∧ ¬ σ.1.length < 8) ∨ (wordB B k 1 = true ∧ ¬ σ.2.1.length < σ.2.2.2.1) ∨ (wordB B k 0 = false ∧ wordB B k 1 = false ∧ wordB B k 2 = false ∧ wordB B k 3 = false ∧ wordB B k 4 = false ∧ wordB B k 5 = false) → J mX8_statement (d + 5) 192 [some (.ref m), none] [] h o h') : JMt mX8_statement (some .boolean) (d + 5) [.ref m] h o h' := by
  have n8 := hB.n8
  have l8 := hB.l8
  have m8 := hB.m8
  have wd : ∀ i, i < 6 → JMt mX8_isWord (some .boolean) (d + 4) [.ref m, .retAddr (6 + (6 + i))] h (some (.int (bI (wordB B k i)))) h := fun i hi => by rw [← word6 hi]; exact u_isWord (d := d) (by omega) hM hT hR hk
  have no : ∀ {b : Bool}, b = false → ∀ {P : Prop}, ¬ bI b = 0 → P := fun e _ z => absurd (by rw [e]; rfl) z
  have ye : ∀ {b : Bool}, b = true → ∀ {P : Prop}, bI b = 0 → P := fun e _ z => absurd z (by rw [e]; decide)
  -- no two words at once
  have one : ∀ i j, i < 6 → j < 6 → i ≠ j → wordB B k i = true → wordB B k j = false := by
    have df : ∀ i, i < 6 → ∀ j, j < 6 → i ≠ j → lenS i = lenS j → ∃ c, c < lenS i ∧ chr i c ≠ chr j c := by decide +kernel
    intro i j hi hj hij h1
    obtain ⟨a1, a2, a3⟩ := of_decide_eq_true h1
    refine decide_eq_false (fun z => ?_)
    obtain ⟨b1, b2, b3⟩ := z
    obtain ⟨c, c1, c2⟩ := df i hi j hj hij (by omega)
    exact c2 ((a3 c c1).symm.trans (b3 c (by omega)))
  have t192 : (wordB B k 5 = false) → J mX8_statement (d + 5) 192 [some (.ref m), none] [] h o h' → J mX8_statement (d + 5) 151 [some (.ref m), none] [] h o h' := fun e kk => k_X8_statement_151 (wd 5 (by omega)) (Or.inl rfl) hM.g (fun _ => kk) (no e)
  have t151 : wordB B k 4 = false → J mX8_statement (d + 5) 151 [some (.ref m), none] [] h o h' → J mX8_statement (d + 5) 108 [some (.ref m), none] [] h o h' := fun e kk => k_X8_statement_108 (wd 4 (by omega)) (Or.inl rfl) hM.g (fun _ => kk) (no e)
  have t108 : wordB B k 3 = false → J mX8_statement (d + 5) 108 [some (.ref m), none] [] h o h' → J mX8_statement (d + 5) 68 [some (.ref m), none] [] h o h' := fun e kk => k_X8_statement_68 (wd 3 (by omega)) (Or.inl rfl) hM.g (fun _ => kk) (no e)
  have t68 : wordB B k 2 = false → J mX8_statement (d + 5) 68 [some (.ref m), none] [] h o h' → J mX8_statement (d + 5) 48 [some (.ref m), none] [] h o h' := fun e kk => k_X8_statement_48 (wd 2 (by omega)) (Or.inl rfl) hM.g (fun _ => kk) (no e)
  have t48 : wordB B k 1 = false → J mX8_statement (d + 5) 48 [some (.ref m), none] [] h o h' → J mX8_statement (d + 5) 23 [some (.ref m), none] [] h o h' := fun e kk => k_X8_statement_23 (wd 1 (by omega)) (Or.inl rfl) hM.g (fun _ => kk) (no e)
  refine jm mi_X8_statement (Nat.le_of_ble_eq_true rfl) rt rfl ?_
  cases b0 : wordB B k 0 with
  | true =>
    by_cases hp : σ.1.length < 8
    · exact k_X8_statement_0 (wd 0 (by omega)) (Or.inl rfl) hM.g (ye b0) (fun _ => k_X8_statement_9 hM.g (fun z => absurd z (by rw [hB.n]; exact nI_ge (b := 8) (by omega) (by omega))) (fun _ => c0 b0 hp))
    · exact k_X8_statement_0 (wd 0 (by omega)) (Or.inl rfl) hM.g (ye b0) (fun _ => k_X8_statement_9 hM.g (fun _ => t48 (one 0 1 (by omega) (by omega) (by omega) b0) (t68 (one 0 2 (by omega) (by omega) (by omega) b0) (t108 (one 0 3 (by omega) (by omega) (by omega) b0) (t151 (one 0 4 (by omega) (by omega) (by omega) b0) (t192 (one 0 5 (by omega) (by omega) (by omega) b0) (c6 (Or.inl ⟨b0, hp⟩))))))) (fun z => absurd (by rw [hB.n]; exact nI_le (a := 8) (by omega) (by omega)) z))
  | false =>
    refine k_X8_statement_0 (wd 0 (by omega)) (Or.inl rfl) hM.g (fun _ => ?_) (no b0)
    cases b1 : wordB B k 1 with
    | true =>
      by_cases hm : σ.2.1.length < σ.2.2.2.1
      · exact k_X8_statement_23 (wd 1 (by omega)) (Or.inl rfl) hM.g (ye b1) (fun _ => k_X8_statement_32 hM.g (fun z => absurd z (by rw [hB.mo, hB.sz]; exact nI_ge hm (by omega))) (fun _ => c1 b1 hm))
      · exact k_X8_statement_23 (wd 1 (by omega)) (Or.inl rfl) hM.g (ye b1) (fun _ => k_X8_statement_32 hM.g (fun _ => t68 (one 1 2 (by omega) (by omega) (by omega) b1) (t108 (one 1 3 (by omega) (by omega) (by omega) b1) (t151 (one 1 4 (by omega) (by omega) (by omega) b1) (t192 (one 1 5 (by omega) (by omega) (by omega) b1) (c6 (Or.inr (Or.inl ⟨b1, hm⟩))))))) (fun z => absurd (by rw [hB.mo, hB.sz]; exact nI_le (by omega) (by omega)) z))
    | false =>
      refine k_X8_statement_23 (wd 1 (by omega)) (Or.inl rfl) hM.g (fun _ => ?_) (no b1)
      cases b2 : wordB B k 2 with
      | true => exact k_X8_statement_48 (wd 2 (by omega)) (Or.inl rfl) hM.g (ye b2) (fun _ => c2 b2)
      | false =>
        refine k_X8_statement_48 (wd 2 (by omega)) (Or.inl rfl) hM.g (fun _ => ?_) (no b2)
        cases b3 : wordB B k 3 with
        | true => exact k_X8_statement_68 (wd 3 (by omega)) (Or.inl rfl) hM.g (ye b3) (fun _ => c3 b3)
        | false =>
          refine k_X8_statement_68 (wd 3 (by omega)) (Or.inl rfl) hM.g (fun _ => ?_) (no b3)
          cases b4 : wordB B k 4 with
          | true => exact k_X8_statement_108 (wd 4 (by omega)) (Or.inl rfl) hM.g (ye b4) (fun _ => c4 b4)
          | false =>
            refine k_X8_statement_108 (wd 4 (by omega)) (Or.inl rfl) hM.g (fun _ => ?_) (no b4)
            cases b5 : wordB B k 5 with
            | true => exact k_X8_statement_151 (wd 5 (by omega)) (Or.inl rfl) hM.g (ye b5) (fun _ => c5 b5)
            | false => exact t192 b5 (c6 (Or.inr (Or.inr ⟨b0, b1, b2, b3, b4, b5⟩)))
theorem u_statement {k : Tok} (hk : tokOK B k) (ho : okW σ) (hM : ModH h m) (hT : MT h m B) (hB : MB h m σ) (hR : LookR h m B k) : ∃ h1, JMt mX8_statement (some .boolean) (d + 5) [.ref m] h (some (.int (bI (stF B k σ).1))) h1 ∧ OutR h h1 m B (stF B k σ) := by
  have n8 := hB.n8
  have l8 := hB.l8
  have m8 := hB.m8
  have w10 := hB.w10
  have d9 := hB.d999
  have one : ∀ i j, i < 6 → j < 6 → i ≠ j → wordB B k i = true → wordB B k j = false := by
    have df : ∀ i, i < 6 → ∀ j, j < 6 → i ≠ j → lenS i = lenS j → ∃ c, c < lenS i ∧ chr i c ≠ chr j c := by decide +kernel
    intro i j hi hj hij h1
    obtain ⟨a1, a2, a3⟩ := of_decide_eq_true h1
    refine decide_eq_false (fun z => ?_)
    obtain ⟨b1, b2, b3⟩ := z
    obtain ⟨c, c1, c2⟩ := df i hi j hj hij (by omega)
    exact c2 ((a3 c c1).symm.trans (b3 c (by omega)))
  have ct : ∀ {b : Bool} {P : Prop}, b = true → b = false → P := fun e f => by rw [e] at f; cases f
  -- a wrong statement
  have bad : stF B k σ = (false, k, σ) → ((wordB B k 0 = true ∧ ¬ σ.1.length < 8) ∨ (wordB B k 1 = true ∧ ¬ σ.2.1.length < σ.2.2.2.1) ∨ (wordB B k 0 = false ∧ wordB B k 1 = false ∧ wordB B k 2 = false ∧ wordB B k 3 = false ∧ wordB B k 4 = false ∧ wordB B k 5 = false)) → ∃ h1, JMt mX8_statement (some .boolean) (d + 5) [.ref m] h (some (.int (bI (stF B k σ).1))) h1 ∧ OutR h h1 m B (stF B k σ) := fun e hc => by
    rw [e]
    have U : Upf (fR m) h (setI h m 28 (hI h m 26)) := Upf.set (by unfold fR; omega)
    refine ⟨setI h m 28 (hI h m 26), u_finds (d := d) hk hM hT hB hR rB ?_ ?_ ?_ ?_ ?_ ?_ (fun _ => k_X8_statement_192 (u_wrong hM) (Or.inl rfl) hM.g), OutR.no hB U (by rw [hI_setI, if_pos ⟨rfl, rfl⟩]; exact hR.2.2.1)⟩
    · intro b0 hp
      rcases hc with ⟨_, z⟩ | ⟨z, _⟩ | ⟨z, _⟩
      · exact absurd hp z
      · exact ct b0 (one 1 0 (by omega) (by omega) (by omega) z)
      · exact ct b0 z
    · intro b0 hp
      rcases hc with ⟨z, _⟩ | ⟨_, z⟩ | ⟨_, z, _⟩
      · exact ct b0 (one 0 1 (by omega) (by omega) (by omega) z)
      · exact absurd hp z
      · exact ct b0 z
    · intro b0
      rcases hc with ⟨z, _⟩ | ⟨z, _⟩ | ⟨_, _, z, _⟩
      · exact ct b0 (one 0 2 (by omega) (by omega) (by omega) z)
      · exact ct b0 (one 1 2 (by omega) (by omega) (by omega) z)
      · exact ct b0 z
    · intro b0
      rcases hc with ⟨z, _⟩ | ⟨z, _⟩ | ⟨_, _, _, z, _⟩
      · exact ct b0 (one 0 3 (by omega) (by omega) (by omega) z)
      · exact ct b0 (one 1 3 (by omega) (by omega) (by omega) z)
      · exact ct b0 z
    · intro b0
      rcases hc with ⟨z, _⟩ | ⟨z, _⟩ | ⟨_, _, _, _, z, _⟩
      · exact ct b0 (one 0 4 (by omega) (by omega) (by omega) z)
      · exact ct b0 (one 1 4 (by omega) (by omega) (by omega) z)
      · exact ct b0 z
    · intro b0
      rcases hc with ⟨z, _⟩ | ⟨z, _⟩ | ⟨_, _, _, _, _, z⟩
      · exact ct b0 (one 0 5 (by omega) (by omega) (by omega) z)
      · exact ct b0 (one 1 5 (by omega) (by omega) (by omega) z)
      · exact ct b0 z
  have v0 : vp_in (0 : Int32) 5 := vp_in_nI (n := 0) (by omega) (by omega)
  cases b0 : wordB B k 0 with
  | true =>
    have e : stF B k σ = perF B k σ := by unfold stF; rw [if_pos b0]
    by_cases hp : σ.1.length < 8
    · rw [e]
      obtain ⟨h1, a1, a2⟩ := u_tellsPerson (d := d) hk hp hM hT hB hR
      exact ⟨h1, u_finds (d := d) hk hM hT hB hR rB (fun _ _ => k_X8_statement_18 a1 (Or.inl a2.1.1) hM.g) (fun z => ct z (one 0 1 (by omega) (by omega) (by omega) b0)) (fun z => ct z (one 0 2 (by omega) (by omega) (by omega) b0)) (fun z => ct z (one 0 3 (by omega) (by omega) (by omega) b0)) (fun z => ct z (one 0 4 (by omega) (by omega) (by omega) b0)) (fun z => ct z (one 0 5 (by omega) (by omega) (by omega) b0)) (fun z => z.elim (fun w => absurd hp w.2) (fun w => w.elim (fun w => ct w.1 (one 0 1 (by omega) (by omega) (by omega) b0)) (fun w => ct b0 w.1))), a2⟩
    · exact bad (by rw [e]; unfold perF; rw [if_neg hp]) (Or.inl ⟨b0, hp⟩)
  | false =>
    cases b1 : wordB B k 1 with
    | true =>
      have e : stF B k σ = clmF B k σ := by unfold stF; rw [if_neg (by rw [b0]; decide), if_pos b1]
      by_cases hm : σ.2.1.length < σ.2.2.2.1
      · rw [e]
        obtain ⟨h1, a1, a2⟩ := u_tellsClimb (d := d) hk hm ho hM hT hB hR
        exact ⟨h1, u_finds (d := d) hk hM hT hB hR rB (fun z => ct z b0) (fun _ _ => k_X8_statement_43 a1 (Or.inl a2.1.1) hM.g) (fun z => ct z (one 1 2 (by omega) (by omega) (by omega) b1)) (fun z => ct z (one 1 3 (by omega) (by omega) (by omega) b1)) (fun z => ct z (one 1 4 (by omega) (by omega) (by omega) b1)) (fun z => ct z (one 1 5 (by omega) (by omega) (by omega) b1)) (fun z => z.elim (fun w => ct w.1 b0) (fun w => w.elim (fun w => absurd hm w.2) (fun w => ct b1 w.2.1))), a2⟩
      · exact bad (by rw [e]; unfold clmF; rw [if_neg hm]) (Or.inr (Or.inl ⟨b1, hm⟩))
    | false =>
      cases b2 : wordB B k 2 with
      | true =>
        have e : stF B k σ = (true, k, (σ.1, [], σ.2.2)) := by unfold stF; rw [if_neg (by rw [b0]; decide), if_neg (by rw [b1]; decide), if_pos b2]
        rw [e]
        have U : Upf (fP m) h (setI h m 20 0) := Upf.set (by unfold fP; omega)
        obtain ⟨h1, a1, a2, a3, a4⟩ := u_next (d := d + 3) hk (hM.keep U) (hT.kp U (fun i k q _ => by unfold fP at q; omega) (fun i k q => by unfold fP at q; omega)) (hR.kp U (fun i h1 h2 q => by unfold fP at q; omega))
        have hB1 : MB (setI h m 20 0) m (σ.1, [], σ.2.2) := hB.pile U ⟨by rw [hI_setI, if_pos ⟨rfl, rfl⟩]; rfl, Nat.zero_le _, fun k hk => absurd hk (Nat.not_lt_zero k)⟩
        exact ⟨h1, u_finds (d := d) hk hM hT hB hR (o := some (.int (bI true))) rB (fun z => ct z b0) (fun z => ct z b1) (fun _ => k_X8_statement_57 hM.g a1 (Or.inl a2.1)) (fun z => ct z (one 2 3 (by omega) (by omega) (by omega) b2)) (fun z => ct z (one 2 4 (by omega) (by omega) (by omega) b2)) (fun z => ct z (one 2 5 (by omega) (by omega) (by omega) b2)) (fun z => z.elim (fun w => ct w.1 b0) (fun w => w.elim (fun w => ct w.1 b1) (fun w => ct b2 w.2.2.1))), OutR.mk1 ((U.mono (fun i k q => Or.inl (fPV q))).tr (a2.mono (fun i k q => Or.inr q))) (hB1.keepS (a2.mono (fun i k => fRS))) a3⟩
      | false =>
        cases b3 : wordB B k 3 with
        | true =>
          have e : stF B k σ = telF B k 0 σ := by unfold stF; rw [if_neg (by rw [b0]; decide), if_neg (by rw [b1]; decide), if_neg (by rw [b2]; decide), if_pos b3]
          rw [e, tel_eq (lo := 0) (hi := 9) (fun v => decide_eq_decide.mpr (by show ((0 : Int) = 0 ∧ _ ∨ (0 : Int) = 1 ∧ _ ∨ (0 : Int) = 2 ∧ _) ↔ _; omega))]
          have fnd : ∀ {o : Option Value} {h' : PH}, RetT (some .boolean) o → J mX8_statement (d + 5) 77 [some (.ref m), none] [] h o h' → JMt mX8_statement (some .boolean) (d + 5) [.ref m] h o h' := fun rt kk => u_finds (d := d) hk hM hT hB hR rt (fun z => ct z b0) (fun z => ct z b1) (fun z => ct z b2) (fun _ => kk) (fun z => ct z (one 3 4 (by omega) (by omega) (by omega) b3)) (fun z => ct z (one 3 5 (by omega) (by omega) (by omega) b3)) (fun z => z.elim (fun w => ct w.1 b0) (fun w => w.elim (fun w => ct w.1 b1) (fun w => ct b3 w.2.2.2.1)))
          cases eg : numG B (tokF B k.2.2) 0 9 with
          | none =>
            obtain ⟨h1, a1, a2, a3⟩ := u_tellsN (d := d + 1) (lo := 0) (hi := 9) hk (by decide) hM hT hR eg
            have hM1 := hM.keep a2
            have hB1 : MB h1 m σ := hB.keepS (a2.mono (fun i k => fRS))
            have U : Upf (fun i k => i = m ∧ (k = 9 ∨ k = 10 ∨ k = 11)) h1 (setI h1 m 9 (hI h1 m 9)) := Upf.set ⟨rfl, by omega⟩
            exact ⟨_, fnd rB (k_X8_statement_77 a1 (Or.inl a2.1) hM.g (fun _ => k_X8_statement_99 hM1.g (k_X8_statement_103 hM1.g)) (fun z => absurd rfl z)), (a2.mono (fun i k q => Or.inr q)).tr (U.mono (fun i k q => Or.inl (by unfold fV; omega))), hB1.w3 U (by rw [hI_setI, if_pos ⟨rfl, rfl⟩]; exact hB1.wi) (by rw [hI_setI, if_neg (by omega)]; exact hB1.mo) (by rw [hI_setI, if_neg (by omega)]; exact hB1.da) w10 m8 d9, fun z => (by cases z), fun _ => by rw [hI_setI, if_neg (by omega)]; exact a3⟩
          | some v =>
            obtain ⟨y1, y2, y3⟩ := numG_b eg
            obtain ⟨h1, a1, a2, a3, a4⟩ := u_tellsY (d := d + 1) (lo := 0) (hi := 9) hk (by decide) hM hT hR eg
            have hM1 := hM.keep a2
            have hB1 : MB h1 m σ := hB.keepS (a2.mono (fun i k => fRS))
            have U : Upf (fun i k => i = m ∧ (k = 9 ∨ k = 10 ∨ k = 11)) h1 (setI h1 m 9 (hI h1 (m + 23) (0 : Int32).toNatClampNeg)) := Upf.set ⟨rfl, by omega⟩
            exact ⟨_, fnd rB (k_X8_statement_77 a1 (Or.inl a2.1) hM.g (fun z => absurd z (by decide)) (fun _ => k_X8_statement_90 hM1.g hM1.r29 hM1.g29 v0 (k_X8_statement_103 hM1.g))), OutR.mk1 ((a2.mono (fun i k q => Or.inr q)).tr (U.mono (fun i k q => Or.inl (by unfold fV; omega)))) (hB1.w3 (a := v) U (by rw [hI_setI, if_pos ⟨rfl, rfl⟩]; exact a4) (by rw [hI_setI, if_neg (by omega)]; exact hB1.mo) (by rw [hI_setI, if_neg (by omega)]; exact hB1.da) (by omega) m8 d9) (a3.kp U (fun i h1 h2 q => by omega))⟩
        | false =>
          cases b4 : wordB B k 4 with
          | true =>
            have e : stF B k σ = telF B k 1 σ := by unfold stF; rw [if_neg (by rw [b0]; decide), if_neg (by rw [b1]; decide), if_neg (by rw [b2]; decide), if_neg (by rw [b3]; decide), if_pos b4]
            have hlo : (nI (if σ.2.1.length ≤ 1 then 1 else σ.2.1.length)).toInt = ((if σ.2.1.length ≤ 1 then 1 else σ.2.1.length : Nat) : Int) := nI_toInt (by split <;> omega)
            rw [e, tel_eq (lo := ((if σ.2.1.length ≤ 1 then 1 else σ.2.1.length : Nat) : Int)) (hi := 8) (fun v => decide_eq_decide.mpr (by show ((1 : Int) = 0 ∧ _ ∨ (1 : Int) = 1 ∧ _ ∨ (1 : Int) = 2 ∧ _) ↔ _; split <;> omega))]
            have fnd : ∀ {o : Option Value} {h' : PH}, RetT (some .boolean) o → J mX8_statement (d + 5) 117 [some (.ref m), none] [] h o h' → JMt mX8_statement (some .boolean) (d + 5) [.ref m] h o h' := fun rt kk => u_finds (d := d) hk hM hT hB hR rt (fun z => ct z b0) (fun z => ct z b1) (fun z => ct z b2) (fun z => ct z b3) (fun _ => kk) (fun z => ct z (one 4 5 (by omega) (by omega) (by omega) b4)) (fun z => z.elim (fun w => ct w.1 b0) (fun w => w.elim (fun w => ct w.1 b1) (fun w => ct b4 w.2.2.2.2.1)))
            cases eg : numG B (tokF B k.2.2) ((if σ.2.1.length ≤ 1 then 1 else σ.2.1.length : Nat) : Int) 8 with
            | none =>
              obtain ⟨h1, a1, a2, a3⟩ := u_tellsN (d := d + 1) (lo := nI (if σ.2.1.length ≤ 1 then 1 else σ.2.1.length)) (hi := 8) hk (by decide) hM hT hR (by rw [hlo]; exact eg)
              have hM1 := hM.keep a2
              have hB1 : MB h1 m σ := hB.keepS (a2.mono (fun i k => fRS))
              have U : Upf (fun i k => i = m ∧ (k = 9 ∨ k = 10 ∨ k = 11)) h1 (setI h1 m 10 (hI h1 m 10)) := Upf.set ⟨rfl, by omega⟩
              exact ⟨_, fnd rB (k_X8_statement_117 (u_leastMost hM hB) (Or.inl rfl) hM.g a1 (Or.inl a2.1) hM.g (fun _ => k_X8_statement_142 hM1.g (k_X8_statement_146 hM1.g)) (fun z => absurd rfl z)), (a2.mono (fun i k q => Or.inr q)).tr (U.mono (fun i k q => Or.inl (by unfold fV; omega))), hB1.w3 U (by rw [hI_setI, if_neg (by omega)]; exact hB1.wi) (by rw [hI_setI, if_pos ⟨rfl, rfl⟩]; exact hB1.mo) (by rw [hI_setI, if_neg (by omega)]; exact hB1.da) w10 m8 d9, fun z => (by cases z), fun _ => by rw [hI_setI, if_neg (by omega)]; exact a3⟩
            | some v =>
              obtain ⟨y1, y2, y3⟩ := numG_b eg
              obtain ⟨h1, a1, a2, a3, a4⟩ := u_tellsY (d := d + 1) (lo := nI (if σ.2.1.length ≤ 1 then 1 else σ.2.1.length)) (hi := 8) hk (by decide) hM hT hR (by rw [hlo]; exact eg)
              have hM1 := hM.keep a2
              have hB1 : MB h1 m σ := hB.keepS (a2.mono (fun i k => fRS))
              have U : Upf (fun i k => i = m ∧ (k = 9 ∨ k = 10 ∨ k = 11)) h1 (setI h1 m 10 (hI h1 (m + 23) (0 : Int32).toNatClampNeg)) := Upf.set ⟨rfl, by omega⟩
              exact ⟨_, fnd rB (k_X8_statement_117 (u_leastMost hM hB) (Or.inl rfl) hM.g a1 (Or.inl a2.1) hM.g (fun z => absurd z (by decide)) (fun _ => k_X8_statement_133 hM1.g hM1.r29 hM1.g29 v0 (k_X8_statement_146 hM1.g))), OutR.mk1 ((a2.mono (fun i k q => Or.inr q)).tr (U.mono (fun i k q => Or.inl (by unfold fV; omega)))) (hB1.w3 (b := v) U (by rw [hI_setI, if_neg (by omega)]; exact hB1.wi) (by rw [hI_setI, if_pos ⟨rfl, rfl⟩]; exact a4) (by rw [hI_setI, if_neg (by omega)]; exact hB1.da) w10 (by omega) d9) (a3.kp U (fun i h1 h2 q => by omega))⟩
          | false =>
            cases b5 : wordB B k 5 with
            | true =>
              have e : stF B k σ = telF B k 2 σ := by unfold stF; rw [if_neg (by rw [b0]; decide), if_neg (by rw [b1]; decide), if_neg (by rw [b2]; decide), if_neg (by rw [b3]; decide), if_neg (by rw [b4]; decide), if_pos b5]
              rw [e, tel_eq (lo := 0) (hi := 999) (fun v => decide_eq_decide.mpr (by show ((2 : Int) = 0 ∧ _ ∨ (2 : Int) = 1 ∧ _ ∨ (2 : Int) = 2 ∧ _) ↔ _; omega))]
              have fnd : ∀ {o : Option Value} {h' : PH}, RetT (some .boolean) o → J mX8_statement (d + 5) 160 [some (.ref m), none] [] h o h' → JMt mX8_statement (some .boolean) (d + 5) [.ref m] h o h' := fun rt kk => u_finds (d := d) hk hM hT hB hR rt (fun z => ct z b0) (fun z => ct z b1) (fun z => ct z b2) (fun z => ct z b3) (fun z => ct z b4) (fun _ => kk) (fun z => z.elim (fun w => ct w.1 b0) (fun w => w.elim (fun w => ct w.1 b1) (fun w => ct b5 w.2.2.2.2.2)))
              cases eg : numG B (tokF B k.2.2) 0 999 with
              | none =>
                obtain ⟨h1, a1, a2, a3⟩ := u_tellsN (d := d + 1) (lo := 0) (hi := 999) hk (by decide) hM hT hR eg
                have hM1 := hM.keep a2
                have hB1 : MB h1 m σ := hB.keepS (a2.mono (fun i k => fRS))
                have U : Upf (fun i k => i = m ∧ (k = 9 ∨ k = 10 ∨ k = 11)) h1 (setI h1 m 11 (hI h1 m 11)) := Upf.set ⟨rfl, by omega⟩
                exact ⟨_, fnd rB (k_X8_statement_160 a1 (Or.inl a2.1) hM.g (fun _ => k_X8_statement_183 hM1.g (k_X8_statement_187 hM1.g)) (fun z => absurd rfl z)), (a2.mono (fun i k q => Or.inr q)).tr (U.mono (fun i k q => Or.inl (by unfold fV; omega))), hB1.w3 U (by rw [hI_setI, if_neg (by omega)]; exact hB1.wi) (by rw [hI_setI, if_neg (by omega)]; exact hB1.mo) (by rw [hI_setI, if_pos ⟨rfl, rfl⟩]; exact hB1.da) w10 m8 d9, fun z => (by cases z), fun _ => by rw [hI_setI, if_neg (by omega)]; exact a3⟩
              | some v =>
                obtain ⟨y1, y2, y3⟩ := numG_b eg
                obtain ⟨h1, a1, a2, a3, a4⟩ := u_tellsY (d := d + 1) (lo := 0) (hi := 999) hk (by decide) hM hT hR eg
                have hM1 := hM.keep a2
                have hB1 : MB h1 m σ := hB.keepS (a2.mono (fun i k => fRS))
                have U : Upf (fun i k => i = m ∧ (k = 9 ∨ k = 10 ∨ k = 11)) h1 (setI h1 m 11 (hI h1 (m + 23) (0 : Int32).toNatClampNeg)) := Upf.set ⟨rfl, by omega⟩
                exact ⟨_, fnd rB (k_X8_statement_160 a1 (Or.inl a2.1) hM.g (fun z => absurd z (by decide)) (fun _ => k_X8_statement_174 hM1.g hM1.r29 hM1.g29 v0 (k_X8_statement_187 hM1.g))), OutR.mk1 ((a2.mono (fun i k q => Or.inr q)).tr (U.mono (fun i k q => Or.inl (by unfold fV; omega)))) (hB1.w3 (c := v) U (by rw [hI_setI, if_neg (by omega)]; exact hB1.wi) (by rw [hI_setI, if_neg (by omega)]; exact hB1.mo) (by rw [hI_setI, if_pos ⟨rfl, rfl⟩]; exact a4) w10 m8 (by omega)) (a3.kp U (fun i h1 h2 q => by omega))⟩
            | false =>
              exact bad (by unfold stF; rw [if_neg (by rw [b0]; decide), if_neg (by rw [b1]; decide), if_neg (by rw [b2]; decide), if_neg (by rw [b3]; decide), if_neg (by rw [b4]; decide), if_neg (by rw [b5]; decide)]) (Or.inr (Or.inr ⟨b0, b1, b2, b3, b4, b5⟩))
end RS
