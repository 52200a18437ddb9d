/-! the reference: the whole tape -/
theorem word_1 {B : List Nat} {k : Tok} {i : Nat} (h : wordB B k i = true) : k.1 = 1 := (of_decide_eq_true h).1
/-- a statement that is told ends behind its first word -/
theorem st_pos {B : List Nat} {k : Tok} {σ : WS} (hk : tokOK B k) (h : (stF B k σ).1 = true) : k.2.1 < k.2.2 ∧ k.2.2 ≤ (stF B k σ).2.1.2.2 := by
  have w0 := tokF_ok (B := B) hk.2.1
  have q0 := w0.1.1
  have w : k.1 ≠ 0 → k.2.1 < k.2.2 := hk.2.2.2.1
  have tel : ∀ what, k.2.2 ≤ (telF B k what σ).2.1.2.2 := fun what => by
    have : k.2.2 ≤ (tokF B k.2.2).2.2 := by omega
    unfold telF
    split
    · exact this
    · split <;> exact this
  have pn : ∀ n what (k : Tok) us, tokOK B k → k.2.2 ≤ (pnF B n what k us).2.1.2.2 := by
    intro n
    induction n with
    | zero => intro what k us hk; exact Nat.le_refl _
    | succ n ih =>
      intro what k us hk
      have w0 := tokF_ok (B := B) hk.2.1
      have q0 := w0.1.1
      have : k.2.2 ≤ (tokF B k.2.2).2.2 := by omega
      rw [pn_succ]
      split
      · exact this
      · exact Nat.le_trans this (ih _ _ _ w0.1)
  unfold stF at h ⊢
  split
  · rename_i b0
    refine ⟨w (by rw [word_1 b0]; omega), ?_⟩
    by_cases hp : σ.1.length < 8
    · rw [per_eq hp]
      unfold perG
      have := pn 5 0 k [] hk
      split <;> exact this
    · unfold perF
      rw [if_neg hp]
      exact Nat.le_refl _
  · rename_i b0
    rw [if_neg b0] at h
    split
    · rename_i b1
      refine ⟨w (by rw [word_1 b1]; omega), ?_⟩
      by_cases hm : σ.2.1.length < σ.2.2.2.1
      · rw [clm_eq hm]
        have : k.2.2 ≤ (tokF B k.2.2).2.2 := by omega
        cases numF B (tokF B k.2.2) with
        | none => exact this
        | some p =>
          rw [clmG_some]
          split <;> exact this
      · unfold clmF
        rw [if_neg hm]
        exact Nat.le_refl _
    · rename_i b1
      rw [if_neg b1] at h
      split
      · rename_i b2
        exact ⟨w (by rw [word_1 b2]; omega), Nat.le_refl _⟩
      · rename_i b2
        rw [if_neg b2] at h
        split
        · rename_i b3
          exact ⟨w (by rw [word_1 b3]; omega), tel 0⟩
        · rename_i b3
          rw [if_neg b3] at h
          split
          · rename_i b4
            exact ⟨w (by rw [word_1 b4]; omega), tel 1⟩
          · rename_i b4
            rw [if_neg b4] at h
            split
            · rename_i b5
              exact ⟨w (by rw [word_1 b5]; omega), tel 2⟩
            · rename_i b5
              rw [if_neg b5] at h
              cases h
/-- behind a statement -/
def readT (B : List Nat) (f count : Nat) (k : Tok) (σ : WS) : Int × WS := if k.1 = 0 then ((count : Int), σ) else if k.1 = 3 then readF B f (count + 1) (tokF B k.2.2) σ else (-2000 - (k.2.1 : Int), σ)
theorem readF_succ {B : List Nat} {f count : Nat} {k : Tok} {σ : WS} : readF B (f + 1) count k σ = if (stF B k σ).1 then readT B f count (tokF B (stF B k σ).2.1.2.2) (stF B k σ).2.2 else (-2000 - ((stF B k σ).2.1.2.1 : Int), (stF B k σ).2.2) := rfl
theorem fW7 {m : Nat} : ∀ i k, fW m i k → i ≤ m → i = m ∧ k ≠ 7 := fun i k q => by unfold fW fV fR at q; omega
theorem fW15 {m : Nat} : ∀ i k, fW m i k → i ≠ m + 15 := fun i k q => by unfold fW fV fR at q; omega
section RA
variable {d : Nat} {m : Nat} {B : List Nat}
/-- how the reading ends: told, or at a fault -/
def EndR (h1 : PH) (m : Nat) (r : Int × WS) : Prop := (0 ≤ r.1 → hI h1 m 30 = sI r.1 ∧ MB h1 m r.2) ∧ (r.1 < 0 → (-2000 : Int32) - hI h1 m 28 = sI r.1)
theorem EndR.bad {h1 : PH} {k : Nat} {σ : WS} (e : hI h1 m 28 = nI k) : EndR h1 m (-2000 - (k : Int), σ) := ⟨fun z => by have : (0 : Int) ≤ -2000 - (k : Int) := z; omega, fun _ => by rw [e]; exact fault_nI⟩
theorem neg_bI {k : Nat} : bI false = bI (decide (0 ≤ -2000 - (k : Int))) := by rw [decide_eq_false (by omega)]
theorem v_read (hT250 : B.length ≤ 250) : ∀ f count (h : PH) (k : Tok) (σ : WS), count + f = 250 → 2 * count ≤ k.2.1 + 1 → tokOK B k → okW σ → ModH h m → MT h m B → MB h m σ → LookR h m B k → hI h m 30 = nI count →
    ∃ h1, J mX8_readAll (d + 6) 23 [some (.ref m)] [] h (some (.int (bI (decide (0 ≤ (readT B f count k σ).1))))) h1 ∧ Upf (fVS m) h h1 ∧ EndR h1 m (readT B f count k σ) := by
  intro f
  induction f with
  | zero =>
    intro count h k σ hc hp hk ho hM hT hB hR hs
    have := hk.1
    have := hk.2.1
    omega
  | succ f ih =>
    intro count h k σ hc hp hk ho hM hT hB hR hs
    have k4 := hk.2.2.2.2
    have k0 : k.1 ≠ 0 → k.2.1 < k.2.2 := hk.2.2.2.1
    unfold readT
    by_cases h0 : k.1 = 0
    · rw [if_pos h0]
      refine ⟨h, k_X8_readAll_23 hM.g (fun _ => ?_) (fun z => absurd (by rw [hR.2.1, h0]; rfl) z), Upf.rf, ⟨fun _ => ⟨by rw [hs, nI_sI], hB⟩, fun z => by have z : (count : Int) < 0 := z; omega⟩⟩
      rw [show decide ((0 : Int) ≤ ((count : Int), σ).1) = true from decide_eq_true (by show (0 : Int) ≤ (count : Int); omega)]
      exact k_X8_readAll_69
    · rw [if_neg h0]
      have n0 : ¬ hI h m 25 = 0 := fun z => h0 ((nI_eq (b := 0) (by omega) (by omega)).mp (hR.2.1.symm.trans z))
      by_cases h3 : k.1 = 3
      · rw [if_pos h3]
        obtain ⟨h1, a1, a2, a3, a4⟩ := u_next (d := d + 4) hk hM hT hR
        have hM1 := hM.keep a2
        have hT1 := hT.kp a2 fR7 fR15
        have hB1 : MB h1 m σ := hB.keepS (a2.mono (fun i k => fRS))
        have hs1 : hI h1 m 30 = nI count := by rw [a2.ii (by unfold fR; omega)]; exact hs
        obtain ⟨h2, b1, b2, b3, b4, b5⟩ := u_statement (d := d) a4 ho hM1 hT1 hB1 a3
        have hM2 := hM1.keep b2
        have hT2 := hT1.kp b2 fW7 fW15
        have U2 : Upf (fVS m) h h2 := (a2.mono (fun i k q => Or.inr (fRS q))).tr (b2.mono (fun i k => fWS))
        have hlt := (tokF_ok (B := B) hk.2.1).2
        have ent : ∀ {o : Option Value} {h' : PH}, (¬ bI (stF B (tokF B k.2.2) σ).1 = 0 → J mX8_readAll (d + 6) 56 [some (.ref m)] [] h2 o h') → (bI (stF B (tokF B k.2.2) σ).1 = 0 → J mX8_readAll (d + 6) 54 [some (.ref m)] [] h2 o h') → J mX8_readAll (d + 6) 23 [some (.ref m)] [] h o h' := fun j1 j2 => k_X8_readAll_23 hM.g (fun z => absurd z n0) (fun _ => k_X8_readAll_30 hM.g (fun _ => k_X8_readAll_43 a1 (Or.inl a2.1) hM.g b1 (Or.inl b2.1) hM1.g j1 j2) (fun z => absurd (by rw [hR.2.1, h3]; rfl) z))
        rw [readF_succ]
        cases hb : (stF B (tokF B k.2.2) σ).1 with
        | false =>
          rw [if_neg (by decide)]
          refine ⟨h2, ent (fun z => absurd (by rw [hb]; rfl) z) (fun _ => ?_), U2, EndR.bad (b5 hb)⟩
          rw [← neg_bI]
          exact k_X8_readAll_54
        | true =>
          rw [if_pos rfl]
          have hk1 := tok_st (σ := σ) a4
          have ps := st_pos a4 hb
          have w2 := tokF_ok (B := B) hk1.2.1
          have U3 : Upf (fun i k => i = m ∧ k = 30) h2 (setI h2 m 30 (hI h2 m 30 + (1 : Int32))) := Upf.set ⟨rfl, rfl⟩
          obtain ⟨h4, i1, i2, i3⟩ := ih (count + 1) (setI h2 m 30 (hI h2 m 30 + (1 : Int32))) _ _ (by omega) (by have := k0 h0; omega) w2.1 (okW_st ho) (hM2.keep U3) (hT2.kp U3 (fun i k q _ => by omega) (fun i k q => by omega)) (b3.keep U3 (fun i k q w => by unfold fV at q; omega)) ((b4 hb).kp U3 (fun i h1 h2 q => by omega)) (by rw [hI_setI, if_pos ⟨rfl, rfl⟩, b2.ii (by unfold fW fV fR; omega), hs1, nI_1])
          exact ⟨h4, ent (fun _ => k_X8_readAll_56 hM2.g i1) (fun z => absurd z (by rw [hb]; decide)), (U2.tr (U3.mono (fun i k q => Or.inr (by unfold fS; omega)))).tr i2, i3⟩
      · rw [if_neg h3]
        have U : Upf (fVS m) h (setI h m 28 (hI h m 26)) := Upf.set (Or.inr (by unfold fS; omega))
        refine ⟨setI h m 28 (hI h m 26), k_X8_readAll_23 hM.g (fun z => absurd z n0) (fun _ => k_X8_readAll_30 hM.g (fun z => absurd ((nI_eq (b := 3) (by omega) (by omega)).mp (hR.2.1.symm.trans z)) h3) (fun _ => ?_)), U, EndR.bad (by rw [hI_setI, if_pos ⟨rfl, rfl⟩]; exact hR.2.2.1)⟩
        rw [← neg_bI]
        exact k_X8_readAll_38 (u_wrong hM) (Or.inl rfl) hM.g
theorem u_readAll {h : PH} {σ : WS} (ho : okW σ) (hM : ModH h m) (hT : MT h m B) (hB : MB h m σ) : ∃ h1, JMt mX8_readAll (some .boolean) (d + 6) [.ref m] h (some (.int (bI (decide (0 ≤ (readA B σ).1))))) h1 ∧ Upf (fVS m) h h1 ∧ EndR h1 m (readA B σ) := by
  have U0 : Upf (fun i k => i = m ∧ (k = 30 ∨ k = 24)) h (setI (setI h m 30 (1 : Int32)) m 24 (0 : Int32)) := (Upf.set ⟨rfl, Or.inl rfl⟩).st ⟨rfl, Or.inr rfl⟩
  generalize hz : setI (setI h m 30 (1 : Int32)) m 24 (0 : Int32) = h0 at U0
  have hM0 := hM.keep U0
  have hT0 := hT.kp U0 (fun i k q _ => by omega) (fun i k q => by omega)
  have hB0 : MB h0 m σ := hB.keep U0 (fun i k q w => by unfold fV at q; omega)
  obtain ⟨h1, a1, a2, a3⟩ := u_look (d := d + 4) (i := 0) hM0 hT0 (by rw [← hz, hI_setI, if_pos ⟨rfl, rfl⟩]; rfl) (Nat.zero_le _)
  have w0 := (tokF_ok (B := B) (Nat.zero_le B.length)).1
  have hM1 := hM0.keep a2
  have hT1 := hT0.kp a2 (fun i k q _ => by omega) (fun i k q => by omega)
  have hB1 : MB h1 m σ := hB0.keep a2 (fun i k q w => by unfold fV at q; omega)
  have hs1 : hI h1 m 30 = nI 1 := by rw [a2.ii (by omega), ← hz, hI_setI, if_neg (by omega), hI_setI, if_pos ⟨rfl, rfl⟩]; rfl
  obtain ⟨h2, b1, b2, b3, b4, b5⟩ := u_statement (d := d) w0 ho hM1 hT1 hB1 a3
  have hM2 := hM1.keep b2
  have U2 : Upf (fVS m) h h2 := ((U0.mono (fun i k q => Or.inr (by unfold fS; omega))).tr (a2.mono (fun i k q => Or.inr (by unfold fS; omega)))).tr (b2.mono (fun i k => fWS))
  have ent : ∀ {o : Option Value} {h' : PH}, RetT (some .boolean) o → (¬ bI (stF B (tokF B 0) σ).1 = 0 → J mX8_readAll (d + 6) 23 [some (.ref m)] [] h2 o h') → (bI (stF B (tokF B 0) σ).1 = 0 → J mX8_readAll (d + 6) 21 [some (.ref m)] [] h2 o h') → JMt mX8_readAll (some .boolean) (d + 6) [.ref m] h o h' := fun rt j1 j2 => jm mi_X8_readAll (Nat.le_of_ble_eq_true rfl) rt rfl (k_X8_readAll_0 hM.g (by rw [hz]; exact a1) (Or.inl (by rw [hz]; exact a2.1)) b1 (Or.inl b2.1) hM1.g j1 j2)
  have er : readA B σ = if (stF B (tokF B 0) σ).1 then readT B 249 1 (tokF B (stF B (tokF B 0) σ).2.1.2.2) (stF B (tokF B 0) σ).2.2 else (-2000 - ((stF B (tokF B 0) σ).2.1.2.1 : Int), (stF B (tokF B 0) σ).2.2) := readF_succ
  rw [er]
  cases hb : (stF B (tokF B 0) σ).1 with
  | false =>
    rw [if_neg (by decide)]
    refine ⟨h2, ent rB (fun z => absurd (by rw [hb]; rfl) z) (fun _ => ?_), U2, EndR.bad (b5 hb)⟩
    rw [← neg_bI]
    exact k_X8_readAll_21
  | true =>
    rw [if_pos rfl]
    have hk1 := tok_st (σ := σ) w0
    have ps := st_pos w0 hb
    have w2 := tokF_ok (B := B) hk1.2.1
    obtain ⟨h4, i1, i2, i3⟩ := v_read (d := d) (m := m) hT.2.1 249 1 h2 _ _ rfl (by omega) w2.1 (okW_st ho) hM2 (hT1.kp b2 fW7 fW15) b3 (b4 hb) (by rw [b2.ii (by unfold fW fV fR; omega), hs1])
    exact ⟨h4, ent rB (fun _ => i1) (fun z => absurd z (by rw [hb]; decide)), U2.tr i2, i3⟩
theorem okW_readF : ∀ f count k (σ : WS), okW σ → okW (readF B f count k σ).2
  | 0, _, _, _, ho => ho
  | f + 1, count, k, σ, ho => by
    have h1 := okW_st (B := B) (k := k) ho
    unfold readF
    split
    · split
      · exact h1
      · split
        · exact okW_readF f _ _ _ h1
        · exact h1
    · exact h1
end RA
