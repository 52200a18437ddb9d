/-! the reference: a statement, the whole tape -/
theorem LookR.kp {F : Nat → Nat → Prop} {h h1 : PH} {m : Nat} {B : List Nat} {k : Tok} (hR : LookR h m B k) (a : Upf F h h1) (hF : ∀ i, 24 ≤ i → i ≤ 27 → ¬ F m i) : LookR h1 m B k := by
  obtain ⟨r1, r2, r3, r4⟩ := hR
  rw [← a.ii (hF 24 (by omega) (by omega))] at r1
  rw [← a.ii (hF 25 (by omega) (by omega))] at r2
  rw [← a.ii (hF 26 (by omega) (by omega))] at r3
  rw [← a.ii (hF 27 (by omega) (by omega))] at r4
  exact ⟨r1, r2, r3, r4⟩
/-- what a statement writes -/
def fW (m : Nat) : Nat → Nat → Prop := fun i k => fV m i k ∨ fR m i k
theorem fWS {m i k : Nat} (q : fW m i k) : fVS m i k := q.elim Or.inl (fun z => Or.inr (fRS z))
/-- after a statement: what is changed, the world, the next token or the fault -/
def OutR (h h1 : PH) (m : Nat) (B : List Nat) (r : Bool × Tok × WS) : Prop := Upf (fW m) h h1 ∧ MB h1 m r.2.2 ∧ (r.1 = true → LookR h1 m B (tokF B r.2.1.2.2)) ∧ (r.1 = false → hI h1 m 28 = nI r.2.1.2.1)
theorem OutR.no {h h1 : PH} {m : Nat} {B : List Nat} {k : Tok} {σ : WS} (hB : MB h m σ) (a : Upf (fR m) h h1) (e : hI h1 m 28 = nI k.2.1) : OutR h h1 m B (false, k, σ) := ⟨a.mono (fun i k q => Or.inr q), hB.keepS (a.mono (fun i k => fRS)), fun z => (by cases z), fun _ => e⟩
theorem pn_succ {B : List Nat} {n what : Nat} {k : Tok} {us : List Nat} : pnF B (n + 1) what k us = match numG B (tokF B k.2.2) (loT what) (hiT what) with
    | none => (false, tokF B k.2.2, us)
    | some v => pnF B n (what + 1) (tokF B k.2.2) (us ++ [v]) := by
  rw [pnF]
  unfold numG
  cases numF B (tokF B k.2.2) with
  | none => rfl
  | some v =>
    dsimp only
    by_cases hb : (loT what : Int) ≤ (v : Int) ∧ (v : Int) ≤ (hiT what : Int)
    · rw [if_pos hb, if_pos (show mayB what (v : Int) = true from decide_eq_true hb)]
    · rw [if_neg hb, if_neg (by rw [show mayB what (v : Int) = false from decide_eq_false hb]; decide)]
theorem numG_b {B : List Nat} {k : Tok} {lo hi : Int} {v : Nat} (e : numG B k lo hi = some v) : lo ≤ (v : Int) ∧ (v : Int) ≤ hi ∧ numF B k = some v := by
  unfold numG at e
  split at e
  · cases e
  · rename_i w hw
    split at e
    · rename_i hb
      cases e
      exact ⟨hb.1, hb.2, hw⟩
    · cases e
theorem tel_eq {B : List Nat} {k : Tok} {what : Nat} {lo hi : Int} {σ : WS} (hb : ∀ v : Nat, tellB σ.2.1.length (what : Int) (v : Int) = decide (lo ≤ (v : Int) ∧ (v : Int) ≤ hi)) : telF B k what σ = match numG B (tokF B k.2.2) lo hi with
    | none => (false, tokF B k.2.2, σ)
    | some v => (true, tokF B k.2.2, setW σ what v) := by
  unfold telF numG
  cases numF B (tokF B k.2.2) with
  | none => rfl
  | some v =>
    dsimp only
    rw [hb]
    by_cases h : lo ≤ (v : Int) ∧ (v : Int) ≤ hi
    · rw [decide_eq_true h, if_pos h, if_pos rfl]
    · rw [decide_eq_false h, if_neg h, if_neg (by decide)]
def perG (σ : WS) (r : Bool × Tok × List Nat) : Bool × Tok × WS := if r.1 then (true, r.2.1, (σ.1 ++ [tupP r.2.2], σ.2)) else (false, r.2.1, σ)
def clmG (σ : WS) (k : Tok) : Option Nat → Bool × Tok × WS
  | none => (false, k, σ)
  | some p => if p < σ.1.length ∧ (courseF σ.2.1 p 0).isSome = false then (true, k, (σ.1, insL σ.2.1 σ.2.1.length p, σ.2.2)) else (false, k, σ)
theorem clmG_some {σ : WS} {k : Tok} {p : Nat} : clmG σ k (some p) = if p < σ.1.length ∧ (courseF σ.2.1 p 0).isSome = false then (true, k, (σ.1, insL σ.2.1 σ.2.1.length p, σ.2.2)) else (false, k, σ) := rfl
theorem per_eq {B : List Nat} {k : Tok} {σ : WS} (hp : σ.1.length < 8) : perF B k σ = perG σ (pnF B 5 0 k []) := by
  unfold perF
  rw [if_pos hp]
  rfl
theorem clm_eq {B : List Nat} {k : Tok} {σ : WS} (hm : σ.2.1.length < σ.2.2.2.1) : clmF B k σ = clmG σ (tokF B k.2.2) (numF B (tokF B k.2.2)) := by
  unfold clmF
  rw [if_pos hm]
  cases numF B (tokF B k.2.2) <;> rfl
section RT
variable {d : Nat} {h : PH} {m : Nat} {B : List Nat} {σ : WS}
theorem MB.w3 {h1 : PH} {a b c : Nat} (hB : MB h m σ) (U : Upf (fun i k => i = m ∧ (k = 9 ∨ k = 10 ∨ k = 11)) h h1) (e1 : hI h1 m 9 = nI a) (e2 : hI h1 m 10 = nI b) (e3 : hI h1 m 11 = nI c) (ha : a ≤ 10) (hb : b ≤ 8) (hc : c ≤ 999) : MB h1 m (σ.1, σ.2.1, a, b, c, σ.2.2.2.2.2) := by
  obtain ⟨w1, w2, w3, w4, w5, w6⟩ := hB.2.2
  exact ⟨hB.1.of (fun i k z => U.ii (by omega)), hB.2.1.of (fun i k z => U.ii (by omega)), e1, e2, e3, by rw [U.ii (by omega)]; exact w4, by rw [U.ii (by omega)]; exact w5, ha, hb, hc⟩
theorem u_next {k : Tok} (hk : tokOK B k) (hM : ModH h m) (hT : MT h m B) (hR : LookR h m B k) : ∃ h1, JMt mX8_look none (d + 1) [.ref m] h none h1 ∧ Upf (fR m) h h1 ∧ LookR h1 m B (tokF B k.2.2) ∧ tokOK B (tokF B k.2.2) := by
  obtain ⟨h1, a1, a2, a3⟩ := u_look (d := d) hM hT hR.1 hk.2.1
  exact ⟨h1, a1, a2.mono (fun i k q => by unfold fR; omega), a3, (tokF_ok hk.2.1).1⟩
theorem u_tellsY {k : Tok} {v : Nat} {lo hi : Int32} (hk : tokOK B k) (hh : hi.toInt < 1000) (hM : ModH h m) (hT : MT h m B) (hR : LookR h m B k) (e : numG B (tokF B k.2.2) lo.toInt hi.toInt = some v) : ∃ h1, JMt mX8_tells (some .boolean) (d + 3) [.ref m, .int lo, .int hi] h (some (.int (bI true))) h1 ∧ Upf (fR m) h h1 ∧ LookR h1 m B (tokF B (tokF B k.2.2).2.2) ∧ hI h1 (m + 23) 0 = nI v := by
  obtain ⟨h1, a1, a2, a3, a4⟩ := u_next (d := d + 1) hk hM hT hR
  have hM1 := hM.keep a2
  obtain ⟨h2, b1, b2, b3, b4, b5⟩ := u_numberY (d := d) (i := 0) a4 (by omega) hh hM1 (hT.kp a2 fR7 fR15) a3 e
  exact ⟨h2, jm mi_X8_tells (Nat.le_of_ble_eq_true rfl) rB rfl (k_X8_tells_0 a1 (Or.inl a2.1) hM.g b1 (Or.inl b2.1) hM1.g), a2.tr b2, b3, b4⟩
theorem u_tellsN {k : Tok} {lo hi : Int32} (hk : tokOK B k) (hh : hi.toInt < 1000) (hM : ModH h m) (hT : MT h m B) (hR : LookR h m B k) (e : numG B (tokF B k.2.2) lo.toInt hi.toInt = none) : ∃ h1, JMt mX8_tells (some .boolean) (d + 3) [.ref m, .int lo, .int hi] h (some (.int (bI false))) h1 ∧ Upf (fR m) h h1 ∧ hI h1 m 28 = nI (tokF B k.2.2).2.1 := by
  obtain ⟨h1, a1, a2, a3, a4⟩ := u_next (d := d + 1) hk hM hT hR
  have hM1 := hM.keep a2
  obtain ⟨h2, b1, b2, b3⟩ := u_numberN (d := d) (i := 0) a4 hh hM1 a3 e
  exact ⟨h2, jm mi_X8_tells (Nat.le_of_ble_eq_true rfl) rB rfl (k_X8_tells_0 a1 (Or.inl a2.1) hM.g b1 (Or.inl b2.1) hM1.g), a2.tr b2, b3⟩
theorem u_tellsPerson {k : Tok} (hk : tokOK B k) (hp : σ.1.length < 8) (hM : ModH h m) (hT : MT h m B) (hB : MB h m σ) (hR : LookR h m B k) : ∃ h1, JMt mX8_tellsPerson (some .boolean) (d + 4) [.ref m] h (some (.int (bI (perF B k σ).1))) h1 ∧ OutR h h1 m B (perF B k σ) := by
  rw [per_eq hp]
  have f57 : ∀ {h1 : PH}, J mX8_tellsPerson (d + 4) 57 [some (.ref m), none] [] h1 (some (.int (bI false))) h1 := k_X8_tellsPerson_57 (k_X8_tellsPerson_58 (fun _ => k_X8_tellsPerson_97) (fun z => absurd rfl z))
  have w0 := (tokF_ok (B := B) hk.2.1).1
  generalize hk0 : tokF B k.2.2 = k0 at w0
  have w1 := (tokF_ok (B := B) w0.2.1).1
  generalize hk1 : tokF B k0.2.2 = k1 at w1
  have w2 := (tokF_ok (B := B) w1.2.1).1
  generalize hk2 : tokF B k1.2.2 = k2 at w2
  have w3 := (tokF_ok (B := B) w2.2.1).1
  generalize hk3 : tokF B k2.2.2 = k3 at w3
  have w4 := (tokF_ok (B := B) w3.2.1).1
  generalize hk4 : tokF B k3.2.2 = k4 at w4
  cases e0 : numG B k0 0 5 with
  | none =>
    rw [pn_succ, hk0, show numG B k0 (loT 0) (hiT 0) = none from e0]
    obtain ⟨g0, a1, a2, a3⟩ := u_tellsN (d := d) (lo := 0) (hi := 5) hk (by decide) hM hT hR (by rw [hk0]; exact e0)
    rw [hk0] at a3
    exact ⟨g0, jm mi_X8_tellsPerson (Nat.le_of_ble_eq_true rfl) rB rfl (k_X8_tellsPerson_0 a1 (Or.inl a2.1) hM.g (fun _ => f57) (fun z => absurd rfl z)), OutR.no hB a2 a3⟩
  | some v0 =>
    rw [pn_succ, hk0, show numG B k0 (loT 0) (hiT 0) = some v0 from e0]
    dsimp only
    obtain ⟨g0, a1, U0, a3, t0⟩ := u_tellsY (d := d) (lo := 0) (hi := 5) hk (by decide) hM hT hR (by rw [hk0]; exact e0)
    rw [hk0, hk1] at a3
    have hM0 := hM.keep U0
    have hT0 := hT.kp U0 fR7 fR15
    have ent0 : ∀ {o : Option Value} {h' : PH}, RetT (some .boolean) o → J mX8_tellsPerson (d + 4) 9 [some (.ref m), none] [] g0 o h' → JMt mX8_tellsPerson (some .boolean) (d + 4) [.ref m] h o h' := fun rt kk => jm mi_X8_tellsPerson (Nat.le_of_ble_eq_true rfl) rt rfl (k_X8_tellsPerson_0 a1 (Or.inl U0.1) hM.g (fun z => absurd z (by decide)) (fun _ => kk))
    cases e1 : numG B k1 0 9 with
    | none =>
      rw [pn_succ, hk1, show numG B k1 (loT (0 + 1)) (hiT (0 + 1)) = none from e1]
      obtain ⟨g1, b1, b2, b3⟩ := u_numberN (d := d + 1) (i := 1) (lo := 0) (hi := 9) w1 (by decide) hM0 a3 e1
      exact ⟨g1, ent0 rB (k_X8_tellsPerson_9 b1 (Or.inl b2.1) hM0.g (fun _ => f57) (fun z => absurd rfl z)), OutR.no hB (U0.tr b2) b3⟩
    | some v1 =>
      rw [pn_succ, hk1, show numG B k1 (loT (0 + 1)) (hiT (0 + 1)) = some v1 from e1]
      dsimp only
      obtain ⟨g1, b1, b2, b3, t1, s1⟩ := u_numberY (d := d + 1) (i := 1) (lo := 0) (hi := 9) w1 (by omega) (by decide) hM0 hT0 a3 e1
      rw [hk2] at b3
      have U1 := U0.tr b2
      have hM1 := hM.keep U1
      have hT1 := hT.kp U1 fR7 fR15
      have ent1 : ∀ {o : Option Value} {h' : PH}, RetT (some .boolean) o → J mX8_tellsPerson (d + 4) 20 [some (.ref m), none] [] g1 o h' → JMt mX8_tellsPerson (some .boolean) (d + 4) [.ref m] h o h' := fun rt kk => ent0 rt (k_X8_tellsPerson_9 b1 (Or.inl b2.1) hM0.g (fun z => absurd z (by decide)) (fun _ => kk))
      cases e2 : numG B k2 1 40 with
      | none =>
        rw [pn_succ, hk2, show numG B k2 (loT (0 + 1 + 1)) (hiT (0 + 1 + 1)) = none from e2]
        obtain ⟨g2, c1, c2, c3⟩ := u_numberN (d := d + 1) (i := 2) (lo := 1) (hi := 40) w2 (by decide) hM1 b3 e2
        exact ⟨g2, ent1 rB (k_X8_tellsPerson_20 c1 (Or.inl c2.1) hM1.g (fun _ => f57) (fun z => absurd rfl z)), OutR.no hB (U1.tr c2) c3⟩
      | some v2 =>
        rw [pn_succ, hk2, show numG B k2 (loT (0 + 1 + 1)) (hiT (0 + 1 + 1)) = some v2 from e2]
        dsimp only
        obtain ⟨g2, c1, c2, c3, t2, s2⟩ := u_numberY (d := d + 1) (i := 2) (lo := 1) (hi := 40) w2 (by omega) (by decide) hM1 hT1 b3 e2
        rw [hk3] at c3
        have U2 := U1.tr c2
        have hM2 := hM.keep U2
        have hT2 := hT.kp U2 fR7 fR15
        have ent2 : ∀ {o : Option Value} {h' : PH}, RetT (some .boolean) o → J mX8_tellsPerson (d + 4) 31 [some (.ref m), none] [] g2 o h' → JMt mX8_tellsPerson (some .boolean) (d + 4) [.ref m] h o h' := fun rt kk => ent1 rt (k_X8_tellsPerson_20 c1 (Or.inl c2.1) hM1.g (fun z => absurd z (by decide)) (fun _ => kk))
        cases e3 : numG B k3 0 99 with
        | none =>
          rw [pn_succ, hk3, show numG B k3 (loT (0 + 1 + 1 + 1)) (hiT (0 + 1 + 1 + 1)) = none from e3]
          obtain ⟨g3, i1, i2, i3⟩ := u_numberN (d := d + 1) (i := 3) (lo := 0) (hi := 99) w3 (by decide) hM2 c3 e3
          exact ⟨g3, ent2 rB (k_X8_tellsPerson_31 i1 (Or.inl i2.1) hM2.g (fun _ => f57) (fun z => absurd rfl z)), OutR.no hB (U2.tr i2) i3⟩
        | some v3 =>
          rw [pn_succ, hk3, show numG B k3 (loT (0 + 1 + 1 + 1)) (hiT (0 + 1 + 1 + 1)) = some v3 from e3]
          dsimp only
          obtain ⟨g3, i1, i2, i3, t3, s3⟩ := u_numberY (d := d + 1) (i := 3) (lo := 0) (hi := 99) w3 (by omega) (by decide) hM2 hT2 c3 e3
          rw [hk4] at i3
          have U3 := U2.tr i2
          have hM3 := hM.keep U3
          have hT3 := hT.kp U3 fR7 fR15
          have ent3 : ∀ {o : Option Value} {h' : PH}, RetT (some .boolean) o → J mX8_tellsPerson (d + 4) 42 [some (.ref m), none] [] g3 o h' → JMt mX8_tellsPerson (some .boolean) (d + 4) [.ref m] h o h' := fun rt kk => ent2 rt (k_X8_tellsPerson_31 i1 (Or.inl i2.1) hM2.g (fun z => absurd z (by decide)) (fun _ => kk))
          cases e4 : numG B k4 0 40 with
          | none =>
            rw [pn_succ, hk4, show numG B k4 (loT (0 + 1 + 1 + 1 + 1)) (hiT (0 + 1 + 1 + 1 + 1)) = none from e4]
            obtain ⟨g4, j1, j2, j3⟩ := u_numberN (d := d + 1) (i := 4) (lo := 0) (hi := 40) w4 (by decide) hM3 i3 e4
            exact ⟨g4, ent3 rB (k_X8_tellsPerson_42 j1 (Or.inl j2.1) hM3.g (fun _ => f57) (fun z => absurd rfl z)), OutR.no hB (U3.tr j2) j3⟩
          | some v4 =>
            rw [pn_succ, hk4, show numG B k4 (loT (0 + 1 + 1 + 1 + 1)) (hiT (0 + 1 + 1 + 1 + 1)) = some v4 from e4]
            obtain ⟨g4, j1, j2, j3, t4, s4⟩ := u_numberY (d := d + 1) (i := 4) (lo := 0) (hi := 40) w4 (by omega) (by decide) hM3 hT3 i3 e4
            have U4 := U3.tr j2
            have hM4 := hM.keep U4
            have n0 := numG_b e0
            have n1 := numG_b e1
            have n2 := numG_b e2
            have n3 := numG_b e3
            have n4 := numG_b e4
            have B4 : MB g4 m σ := hB.keepS (U4.mono (fun i k => fRS))
            have c0 : hI g4 (m + 23) (0 : Int32).toNatClampNeg = nI v0 := (s4 0 (by omega)).trans ((s3 0 (by omega)).trans ((s2 0 (by omega)).trans ((s1 0 (by omega)).trans t0)))
            have c1' : hI g4 (m + 23) (1 : Int32).toNatClampNeg = nI v1 := (s4 1 (by omega)).trans ((s3 1 (by omega)).trans ((s2 1 (by omega)).trans t1))
            have c2' : hI g4 (m + 23) (2 : Int32).toNatClampNeg = nI v2 := (s4 2 (by omega)).trans ((s3 2 (by omega)).trans t2)
            have c3' : hI g4 (m + 23) (3 : Int32).toNatClampNeg = nI v3 := (s4 3 (by omega)).trans t3
            have c4' : hI g4 (m + 23) (4 : Int32).toNatClampNeg = nI v4 := t4
            obtain ⟨g5, z1, z2, z3⟩ := u_addPerson (d := d + 3) (q := (v0, v1, v2, v3, v4)) hM4 B4 hp ⟨by show v0 ≤ 5; omega, by show v1 ≤ 9; omega, ⟨by show 1 ≤ v2; omega, by show v2 ≤ 40; omega⟩, by show v3 ≤ 99; omega, by show v4 ≤ 40; omega⟩
            refine ⟨g5, ent3 rB (k_X8_tellsPerson_42 j1 (Or.inl j2.1) hM3.g (fun z => absurd z (by decide)) (fun _ => k_X8_tellsPerson_53 (k_X8_tellsPerson_58 (fun z => absurd z (by decide)) (fun _ => k_X8_tellsPerson_63 hM4.g hM4.r29 hM4.g29 (vp_in_nI (n := 0) (by omega) (by omega)) (vp_in_nI (n := 1) (by omega) (by omega)) (vp_in_nI (n := 2) (by omega) (by omega)) (vp_in_nI (n := 3) (by omega) (by omega)) (vp_in_nI (n := 4) (by omega) (by omega)) (by rw [c0, c1', c2', c3', c4']; exact z1) (Or.inl z2.1) k_X8_tellsPerson_97)))), ?_⟩
            exact ⟨(U4.mono (fun i k q => Or.inr q)).tr (z2.mono (fun i k q => Or.inl q)), z3, fun _ => j3.kp z2 (fun i h1 h2 q => by unfold fV at q; omega), fun z => (by cases z)⟩
theorem u_tellsClimb {k : Tok} (hk : tokOK B k) (hm : σ.2.1.length < σ.2.2.2.1) (ho : okW σ) (hM : ModH h m) (hT : MT h m B) (hB : MB h m σ) (hR : LookR h m B k) : ∃ h1, JMt mX8_tellsClimb (some .boolean) (d + 4) [.ref m] h (some (.int (bI (clmF B k σ).1))) h1 ∧ OutR h h1 m B (clmF B k σ) := by
  have n8 := hB.n8
  have l8 := hB.l8
  have m8 := hB.m8
  rw [clm_eq hm]
  obtain ⟨h1, a1, a2, a3, w0⟩ := u_next (d := d + 2) hk hM hT hR
  generalize hk0 : tokF B k.2.2 = k0 at a3 w0
  have hM1 := hM.keep a2
  have hT1 := hT.kp a2 fR7 fR15
  have hB1 : MB h1 m σ := hB.keepS (a2.mono (fun i k => fRS))
  have en : hI h1 m 13 - (1 : Int32) = sI ((σ.1.length : Int) - 1) := by rw [hB1.n, show (1 : Int32) = nI 1 from rfl, nI_nsub]; rfl
  have hn1 : (hI h1 m 13 - (1 : Int32)).toInt = (σ.1.length : Int) - 1 := by rw [en, sI_toInt (by omega) (by omega)]
  have ent : ∀ {o : Option Value} {h' : PH}, RetT (some .boolean) o → (¬ k0.1 = 2 → J mX8_tellsClimb (d + 4) 47 [some (.ref m), none] [] h1 o h') → (k0.1 = 2 → J mX8_tellsClimb (d + 4) 12 [some (.ref m), none] [] h1 o h') → JMt mX8_tellsClimb (some .boolean) (d + 4) [.ref m] h o h' := fun rt j1 j2 => jm mi_X8_tellsClimb (Nat.le_of_ble_eq_true rfl) rt rfl (k_X8_tellsClimb_0 a1 (Or.inl a2.1) hM.g hM1.g (fun z => j1 (fun e => z (by rw [a3.2.1, e]; rfl))) (fun z => j2 ((nI_eq (b := 2) (by have := w0.2.2.2.2; omega) (by omega)).mp (a3.2.1.symm.trans z))))
  cases e : numG B k0 0 ((σ.1.length : Int) - 1) with
  | none =>
    -- no number of them
    have ec : clmG σ k0 (numF B k0) = (false, k0, σ) := by
      unfold numG at e
      cases hq : numF B k0 with
      | none => rfl
      | some p =>
        rw [hq] at e
        dsimp only at e
        rw [clmG_some, if_neg]
        intro z
        rw [if_pos ⟨by omega, by omega⟩] at e
        cases e
    rw [ec]
    obtain ⟨h2, b1, b2, b3⟩ := u_numberN (d := d + 1) (i := 0) (lo := 0) (hi := hI h1 m 13 - (1 : Int32)) w0 (by rw [hn1]; omega) hM1 a3 (by rw [hn1]; exact e)
    have k47 : J mX8_tellsClimb (d + 4) 47 [some (.ref m), none] [] h1 (some (.int (bI false))) h2 := k_X8_tellsClimb_47 hM1.g b1 (Or.inl b2.1) (fun _ => k_X8_tellsClimb_86) (fun z => absurd rfl z)
    refine ⟨h2, ent rB (fun _ => k47) (fun h2' => ?_), OutR.no hB (a2.tr b2) b3⟩
    obtain ⟨n1, n2⟩ := numG_fig (lo := 0) (hi := (σ.1.length : Int) - 1) w0 h2' (by omega)
    rw [e] at n1
    exact k_X8_tellsClimb_12 hM1.g (t_inI (lo := 0) rfl ((tr64 _).trans hn1)) (Or.inl rfl) (fun _ => k47) (fun z => absurd (by rw [a3.2.2.2 h2', n1]; rfl) z)
  | some p =>
    obtain ⟨p1, p2, p3⟩ := numG_b e
    have hpn : p < σ.1.length := by omega
    have h2' : k0.1 = 2 := by
      unfold numF at p3
      split at p3
      · rename_i z; exact z.1
      · cases p3
    rw [p3, clmG_some]
    obtain ⟨n1, n2⟩ := numG_fig (lo := 0) (hi := (σ.1.length : Int) - 1) w0 h2' (by omega)
    have ef := n2 p e
    rw [e] at n1
    have hf : hI h1 m 27 = nI p := by rw [a3.2.2.2 h2', ef]
    have hin := u_isIn (d := d + 2) (x := p) hM1 hB1 ho.1 (by omega)
    have ent2 : ∀ {o : Option Value} {h' : PH}, RetT (some .boolean) o → (bI (courseF σ.2.1 p 0).isSome = 0 → J mX8_tellsClimb (d + 4) 47 [some (.ref m), none] [] h1 o h') → (¬ bI (courseF σ.2.1 p 0).isSome = 0 → J mX8_tellsClimb (d + 4) 42 [some (.ref m), none] [] h1 o h') → JMt mX8_tellsClimb (some .boolean) (d + 4) [.ref m] h o h' := fun rt j1 j2 => ent rt (fun z => absurd h2' z) (fun _ => k_X8_tellsClimb_12 hM1.g (t_inI (lo := 0) rfl ((tr64 _).trans hn1)) (Or.inl rfl) (fun z => absurd z (by rw [a3.2.2.2 h2', n1]; exact (show ¬ bI true = 0 by decide))) (fun _ => k_X8_tellsClimb_31 hM1.g (by rw [hf]; exact hin) (Or.inl rfl) j1 j2))
    cases hc : (courseF σ.2.1 p 0).isSome with
    | true =>
      rw [if_neg (fun z => by cases z.2)]
      have U : Upf (fR m) h1 (setI h1 m 28 (hI h1 m 26)) := Upf.set (by unfold fR; omega)
      exact ⟨setI h1 m 28 (hI h1 m 26), ent2 rB (fun z => absurd z (by rw [hc]; decide)) (fun _ => k_X8_tellsClimb_42 (u_wrong hM1) (Or.inl rfl) hM1.g), OutR.no hB (a2.tr U) (by rw [hI_setI, if_pos ⟨rfl, rfl⟩]; exact a3.2.2.1)⟩
    | false =>
      rw [if_pos ⟨hpn, rfl⟩]
      obtain ⟨h2, b1, b2, b3, b4, b5⟩ := u_numberY (d := d + 1) (i := 0) (lo := 0) (hi := hI h1 m 13 - (1 : Int32)) w0 (by omega) (by rw [hn1]; omega) hM1 hT1 a3 (by rw [hn1]; exact e)
      have hM2 := hM1.keep b2
      have hB2 : MB h2 m σ := hB1.keepS (b2.mono (fun i k => fRS))
      have cl : (hI h2 m 20).toNatClampNeg = σ.2.1.length := by rw [hB2.sz, nI_clamp (by omega)]
      generalize hz : setI (setI h2 m 20 (hI h2 m 20 + (1 : Int32))) (m + 22) (hI h2 m 20).toNatClampNeg (hI (setI h2 m 20 (hI h2 m 20 + (1 : Int32))) (m + 23) (0 : Int32).toNatClampNeg) = h3
      have U : Upf (fP m) h2 h3 := by rw [← hz]; exact (Upf.set (by unfold fP; omega)).st (by unfold fP; omega)
      have hB3 : MB h3 m (σ.1, insL σ.2.1 σ.2.1.length p, σ.2.2) := by
        refine hB2.pile U ⟨?_, by rw [insL_len (Nat.le_refl _)]; omega, fun j hj => ?_⟩
        · rw [← hz, hI_setI, if_neg (by omega), hI_setI, if_pos ⟨rfl, rfl⟩, hB2.sz, insL_len (Nat.le_refl _), nI_1]
        · rw [insL_len (Nat.le_refl _)] at hj
          rw [insL_end, getD_snoc, ← hz, hI_setI, cl]
          by_cases ej : j = σ.2.1.length
          · rw [if_pos ⟨rfl, ej⟩, if_neg (by omega), if_pos ej, hI_setI, if_neg (by omega)]
            exact b4
          · rw [if_neg (fun z => ej z.2), if_pos (by omega), hI_setI, if_neg (by omega)]
            exact hB2.sk (by omega)
      refine ⟨h3, ent2 rB (fun _ => k_X8_tellsClimb_47 hM1.g b1 (Or.inl b2.1) (fun z => absurd z (by decide)) (fun _ => k_X8_tellsClimb_64 hM2.g hM2.r19 hM2.r29 hM2.g29 (vp_in_nI (n := 0) (by omega) (by omega)) hM2.g19 (by rw [hB2.sz]; exact (vp_in_nI (by omega) (by omega))) (by rw [hz]; exact k_X8_tellsClimb_86))) (fun z => absurd (by rw [hc]; rfl) z), ?_⟩
      exact ⟨((a2.tr b2).mono (fun i k q => Or.inr q)).tr (U.mono (fun i k q => Or.inl (fPV q))), hB3, fun _ => b3.kp U (fun i h1 h2 q => by unfold fP at q; omega), fun z => (by cases z)⟩
end RT
