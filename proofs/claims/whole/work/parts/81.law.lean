/-! a step of the law, on both sides; its loop -/
def RMv (M : JM) (ft : FieldType) (D : Nat) (as : List Value) (h : PH) (m : Nat) (ko to : Option Nat) (v : Value) (T' : TS) : Prop := ∃ h1 ko' to', JMt M (some ft) D as h (some v) h1 ∧ Chg (ownR m ko to) h h1 ∧ (∀ i, i < hn h → ownR m ko' to' i → ownR m ko to i) ∧ hn h1 + 285 * (restN ko' + restN to') = hn h + 285 * (restN ko + restN to) ∧ hs h1 + 3829 * (restN ko' + restN to') = hs h + 3829 * (restN ko + restN to) ∧ MS h1 m ko' to' T'
def InvL (h : PH) (x m : Nat) (O : Nat → Prop) (ko to : Option Nat) (T : TS) : Prop := XS h x O T ∧ MS h m ko to T ∧ ∀ i, O i → i < hn h ∧ ¬ ownR m ko to i
section LP
variable {h : PH} {x m : Nat} {O : Nat → Prop} {ko to : Option Nat} {T T' : TS}
theorem RfM.rmv {M : JM} {D : Nat} {as : List Value} {v : Int32} (hq : RfM M D as h m ko to v T') : RMv M .int D as h m ko to (.int v) T' := hq
theorem RfU.rmv {M : JM} {D : Nat} {as : List Value} {v : Int32} (hq : RfU M D as h m ko to v T') : RMv M .int D as h m ko to (.int v) T' := hq.rm
theorem RfQ.rmv {M : JM} {D : Nat} {as : List Value} {q : QR} (hq : RfQ M D as h m ko to T q) : RMv M .int D as h m ko to (.int (QA q)) (QT T q) := RfU.rm hq
theorem RfL.rmv {M : JM} {D : Nat} {as : List Value} {v : Int32} (hq : RfL M D as h m ko to v T') : RMv M .int D as h m ko to (.int v) T' := by
  obtain ⟨h1, a, b, c⟩ := hq
  exact ⟨h1, ko, to, a, b.chg (fun i k q => Or.inl q) (fun i q => Or.inl q), fun i _ q => q, by rw [b.1], by rw [b.2.1], c⟩
theorem JMt.rmv {M : JM} {ft : FieldType} {D : Nat} {as : List Value} {v : Value} (hS : MS h m ko to T) (hq : JMt M (some ft) D as h (some v) h) : RMv M ft D as h m ko to v T := ⟨h, ko, to, hq, Chg.rf, fun i _ q => q, rfl, rfl, hS⟩
theorem JMt.cm {M : JM} {ft : FieldType} {D : Nat} {as : List Value} {v : Value} (hX : XS h x O T) (hq : JMt M (some ft) D as h (some v) h) : CM M ft D as h x O v T := ⟨h, O, hq, Chg.rf, fun i _ => Iff.rfl, ⟨by omega, by omega⟩, hX⟩
theorem ownR.lt {i : Nat} (hS : MS h m ko to T) (q : ownR m ko to i) : i < hn h := by
  rcases q with q | ⟨k, e, q1, q2⟩ | ⟨t, e, q1, q2⟩
  · have := hS.2.1.lt; omega
  · subst e
    have hK : ModH h k := hS.2.2.2.2.2.2.1.2.2.1
    have := hK.lt; omega
  · subst e
    have hK : ModH h t := hS.2.2.2.2.2.2.2.2.1
    have := hK.lt; omega
/-- only cells that are there are owned -/
theorem XS.cut (hX : XS h x O T) : XS h x (fun i => O i ∧ i < hn h) T := by
  obtain ⟨hT, δ, L, R, x1, x2, x3, x4, x5, x6, x7, x8, x9, x10, x11, x12, x13⟩ := hX
  have lt : ∀ {i t n : Nat}, hG h i = (t, n) → t < 99 → i < hn h := fun g ht => (hG_lt g ht).1
  refine ⟨hT, δ, L, R, x1, x2, x3, x4, x5, x6, x7, x8, x9, x10, fun s hs => ?_, x12, fun i hi => ⟨x13 i hi, ?_⟩⟩
  · have := x11 s hs
    generalize T.2.2.1 s = q at this
    match q, this with
    | none, z => exact z
    | some (.inl p), z => exact z
    | some (.inr (sort, n, v)), ⟨q1, q2, q3, q4, q5⟩ => exact ⟨q1, q2, q3, ⟨q4.1, q4.2, lt q3.1 (by omega)⟩, ⟨q5.1, q5.2, lt q3.2.2.2.1 (by omega)⟩⟩
  · have := lt x1.2.2.2.2.2.2.2.2.2.2.2.2.2 (by omega)
    unfold inX at hi
    omega
theorem pair {M1 M2 : JM} {ft : FieldType} {D : Nat} {as : List Value} {v : Value} (I : InvL h x m O ko to T) (C : CM M1 ft D (.ref x :: as) h x O v T') (R : ∀ h1, MS h1 m ko to T → RMv M2 ft D (.ref m :: as) h1 m ko to v T') : ∃ h1 h2 O' ko' to', JMt M1 (some ft) D (.ref x :: as) h (some v) h1 ∧ JMt M2 (some ft) D (.ref m :: as) h1 (some v) h2 ∧ (hG h x = (7, 11) ∧ hG h1 m = (8, 38)) ∧ (x < hn h ∧ m < hn h) ∧ (x < hn h1 ∧ m < hn h1) ∧ InvL h2 x m O' ko' to' T' ∧ hn h2 + 285 * (restN ko' + restN to') ≤ hn h + 285 * (restN ko + restN to) + 2 ∧ hs h2 + 3829 * (restN ko' + restN to') ≤ hs h + 3829 * (restN ko + restN to) + 42 := by
  obtain ⟨hX, hS, hO⟩ := I
  obtain ⟨h1, O1, c1, c2, c3, c4, c5⟩ := C
  have ml := hS.2.1.lt
  have hS1 : MS h1 m ko to T := hS.chg c2 (fun i q z => (hO i z).2 q)
  obtain ⟨h2, ko', to', r1, r2, r3, r4, r5, r6⟩ := R h1 hS1
  have gx : hG h x = (7, 11) := by
    obtain ⟨hT, δ, L, R, x1, -⟩ := hX
    exact x1.1
  have xl := (hG_lt gx (by omega)).1
  have c5' := c5.cut
  have sep : ∀ i, (O1 i ∧ i < hn h1) → ¬ ownR m ko to i := fun i z q => by
    have hi := ownR.lt hS q
    exact (hO i ((c3 i hi).mp z.1)).2 q
  refine ⟨h1, h2, fun i => O1 i ∧ i < hn h1, ko', to', c1, r1, ⟨gx, hS1.2.1.g⟩, ⟨xl, by omega⟩, ⟨Nat.lt_of_lt_of_le xl c2.1, Nat.lt_of_lt_of_le (by omega) c2.1⟩, ⟨c5'.chg r2 sep, r6, fun i z => ⟨Nat.lt_of_lt_of_le z.2 r2.1, fun q => sep i z (r3 i z.2 q)⟩⟩, by omega, by omega⟩
end LP
section ST
variable {Γ : GA} {nm : String} {h : PH} {x m : Nat} {O : Nat → Prop} {ko to : Option Nat} {T : TS} {i : Int32}
def StepL (Γ : GA) (nm : String) (h : PH) (x m : Nat) (ko to : Option Nat) (i : Int32) (k : Nat) : Prop := ∃ h2 O' ko' to' T', (∀ o h', JG Γ (mL nm) (0 + 10 + 1) 1691 (lsL x m i) [] h2 o h' → JG Γ (mL nm) (0 + 10 + 1) 33 (lsL x m i) [.int (nI k)] h o h') ∧ InvL h2 x m O' ko' to' T' ∧ hn h2 + 285 * (restN ko' + restN to') ≤ hn h + 285 * (restN ko + restN to) + 2 ∧ hs h2 + 3829 * (restN ko' + restN to') ≤ hs h + 3829 * (restN ko + restN to) + 42
theorem st_0 (I : InvL h x m O ko to T) (hb : inS Γ i) : StepL Γ nm h x m ko to i 0 := by
  obtain ⟨h1, h2, O', ko', to', c1, c2, ⟨g1, g2⟩, ⟨l1, l2⟩, ⟨l3, l4⟩, J, r1, r2⟩ := pair (as := [.int (sc Γ i 1), .int (sc Γ i 2), .int (sc Γ i 3)]) I (c_row (d := 0) I.1) (fun h1 S => RfL.rmv (m_row (d := 0) S))
  exact ⟨h2, O', ko', to', _, fun o h' kk => wt_0 (w_0 hb g1 g2 (Or.inr (vaL l1 l2 ok_nil)) (Or.inr (vaL l3 l4 okI)) c1 c2 kk), J, r1, r2⟩
theorem st_1 (I : InvL h x m O ko to T) (hb : inS Γ i) : StepL Γ nm h x m ko to i 1 := by
  obtain ⟨h1, h2, O', ko', to', c1, c2, ⟨g1, g2⟩, ⟨l1, l2⟩, ⟨l3, l4⟩, J, r1, r2⟩ := pair (as := [.int (sc Γ i 1), .int (sc Γ i 2), .long (((sc Γ i 3).toInt64 <<< ((32 : Int32).toInt64 &&& 63)) ||| ((sc Γ i 4).toInt64 &&& (4294967295 : Int64)))]) I (c_set (d := 0) I.1) (fun h1 S => RfL.rmv (m_set (d := 0) S))
  exact ⟨h2, O', ko', to', _, fun o h' kk => wt_1 (w_1 hb g1 g2 (Or.inr (vaL l1 l2 ok_nil)) (Or.inr (vaL l3 l4 okI)) c1 c2 kk), J, r1, r2⟩
theorem st_2 (I : InvL h x m O ko to T) (hb : inS Γ i) : StepL Γ nm h x m ko to i 2 := by
  obtain ⟨h1, h2, O', ko', to', c1, c2, ⟨g1, g2⟩, ⟨l1, l2⟩, ⟨l3, l4⟩, J, r1, r2⟩ := pair (as := [.int (sc Γ i 1), .int (sc Γ i 2), .int (sc Γ i 3), .int (sc Γ i 4), .int (sc Γ i 5)]) I (c_copy (d := 0) I.1) (fun h1 S => RfL.rmv (m_copy (d := 0) S))
  exact ⟨h2, O', ko', to', _, fun o h' kk => wt_2 (w_2 hb g1 g2 (Or.inr (vaL l1 l2 ok_nil)) (Or.inr (vaL l3 l4 okI)) c1 c2 kk), J, r1, r2⟩
theorem st_3 (I : InvL h x m O ko to T) (hb : inS Γ i) : StepL Γ nm h x m ko to i 3 := by
  obtain ⟨h1, h2, O', ko', to', c1, c2, ⟨g1, g2⟩, ⟨l1, l2⟩, ⟨l3, l4⟩, J, r1, r2⟩ := pair (as := [.int (sc Γ i 1), .int (sc Γ i 2)]) I (JMt.cm I.1 (c_element (d := 0) I.1)) (fun h1 S => JMt.rmv S (m_element (d := 0) S))
  exact ⟨h2, O', ko', to', _, fun o h' kk => wt_3 (w_3 hb g1 g2 (Or.inr (vaL l1 l2 ok_nil)) (Or.inr (vaL l3 l4 okJ)) c1 c2 kk), J, r1, r2⟩
theorem st_4 (I : InvL h x m O ko to T) (hb : inS Γ i) : StepL Γ nm h x m ko to i 4 := by
  obtain ⟨h1, h2, O', ko', to', c1, c2, ⟨g1, g2⟩, ⟨l1, l2⟩, ⟨l3, l4⟩, J, r1, r2⟩ := pair (as := [.int (sc Γ i 1)]) I (JMt.cm I.1 (c_holds (d := 0) I.1)) (fun h1 S => JMt.rmv S (m_holds (d := 0) S))
  exact ⟨h2, O', ko', to', _, fun o h' kk => wt_4 (w_4 hb g1 g2 (Or.inr (vaL l1 l2 ok_nil)) (Or.inr (vaL l3 l4 okI)) c1 c2 kk), J, r1, r2⟩
theorem st_5 (I : InvL h x m O ko to T) (hb : inS Γ i) : StepL Γ nm h x m ko to i 5 := by
  obtain ⟨h1, h2, O', ko', to', c1, c2, ⟨g1, g2⟩, ⟨l1, l2⟩, ⟨l3, l4⟩, J, r1, r2⟩ := pair (as := [.int (sc Γ i 1), .int (sc Γ i 2)]) I (c_show (d := 0) I.1) (fun h1 S => RfL.rmv (m_show (d := 0) S))
  exact ⟨h2, O', ko', to', _, fun o h' kk => wt_5 (w_5 hb g1 g2 (Or.inr (vaL l1 l2 ok_nil)) (Or.inr (vaL l3 l4 okI)) c1 c2 kk), J, r1, r2⟩
theorem st_6 (I : InvL h x m O ko to T) (hb : inS Γ i) : StepL Γ nm h x m ko to i 6 := by
  obtain ⟨h1, h2, O', ko', to', c1, c2, ⟨g1, g2⟩, ⟨l1, l2⟩, ⟨l3, l4⟩, J, r1, r2⟩ := pair (as := [.int (sc Γ i 1), .int (sc Γ i 2)]) I (CQ.cm I.1 (c_says (d := 0) I.1)) (fun h1 S => RfQ.rmv (m_says (d := 0) S))
  exact ⟨h2, O', ko', to', _, fun o h' kk => wt_6 (w_6 hb g1 g2 (Or.inr (vaL l1 l2 ok_nil)) (Or.inr (vaL l3 l4 okI)) c1 c2 kk), J, r1, r2⟩
theorem st_7 (I : InvL h x m O ko to T) (hb : inS Γ i) : StepL Γ nm h x m ko to i 7 := by
  obtain ⟨h1, h2, O', ko', to', c1, c2, ⟨g1, g2⟩, ⟨l1, l2⟩, ⟨l3, l4⟩, J, r1, r2⟩ := pair (as := [.int (sc Γ i 1), .int (sc Γ i 2), .int (sc Γ i 3), .int (sc Γ i 4), .int (sc Γ i 5)]) I (CU.cm I.1 (c_person (d := 0) I.1)) (fun h1 S => RfU.rmv (m_person (d := 0) S))
  exact ⟨h2, O', ko', to', _, fun o h' kk => wt_7 (w_7 hb g1 g2 (Or.inr (vaL l1 l2 ok_nil)) (Or.inr (vaL l3 l4 okI)) c1 c2 kk), J, r1, r2⟩
theorem st_8 (I : InvL h x m O ko to T) (hb : inS Γ i) : StepL Γ nm h x m ko to i 8 := by
  obtain ⟨h1, h2, O', ko', to', c1, c2, ⟨g1, g2⟩, ⟨l1, l2⟩, ⟨l3, l4⟩, J, r1, r2⟩ := pair (as := [.int (sc Γ i 1), .int (sc Γ i 2), .int (sc Γ i 3)]) I (CU.cm I.1 (c_give (d := 0) I.1)) (fun h1 S => RfU.rmv (m_give (d := 0) S))
  exact ⟨h2, O', ko', to', _, fun o h' kk => wt_8 (w_8 hb g1 g2 (Or.inr (vaL l1 l2 ok_nil)) (Or.inr (vaL l3 l4 okI)) c1 c2 kk), J, r1, r2⟩
theorem st_9 (I : InvL h x m O ko to T) (hb : inS Γ i) : StepL Γ nm h x m ko to i 9 := by
  obtain ⟨h1, h2, O', ko', to', c1, c2, ⟨g1, g2⟩, ⟨l1, l2⟩, ⟨l3, l4⟩, J, r1, r2⟩ := pair (as := [.int (sc Γ i 1), .int (sc Γ i 2)]) I (CU.cm I.1 (c_tell (d := 0) I.1)) (fun h1 S => RfU.rmv (m_tell (d := 0) S))
  exact ⟨h2, O', ko', to', _, fun o h' kk => wt_9 (w_9 hb g1 g2 (Or.inr (vaL l1 l2 ok_nil)) (Or.inr (vaL l3 l4 okI)) c1 c2 kk), J, r1, r2⟩
theorem st_10 (I : InvL h x m O ko to T) (hb : inS Γ i) : StepL Γ nm h x m ko to i 10 := by
  obtain ⟨h1, h2, O', ko', to', c1, c2, ⟨g1, g2⟩, ⟨l1, l2⟩, ⟨l3, l4⟩, J, r1, r2⟩ := pair (as := [.int (sc Γ i 1)]) I (CU.cm I.1 (c_feed (d := 0) I.1)) (fun h1 S => RfU.rmv (m_feed (d := 0) S))
  exact ⟨h2, O', ko', to', _, fun o h' kk => wt_10 (w_10 hb g1 g2 (Or.inr (vaL l1 l2 ok_nil)) (Or.inr (vaL l3 l4 okI)) c1 c2 kk), J, r1, r2⟩
theorem st_11 (I : InvL h x m O ko to T) (hb : inS Γ i) : StepL Γ nm h x m ko to i 11 := by
  obtain ⟨h1, h2, O', ko', to', c1, c2, ⟨g1, g2⟩, ⟨l1, l2⟩, ⟨l3, l4⟩, J, r1, r2⟩ := pair (as := []) I (CU.cm I.1 (c_wipe (d := 0) I.1)) (fun h1 S => RfU.rmv (m_wipe (d := 0) S))
  exact ⟨h2, O', ko', to', _, fun o h' kk => wt_11 (w_11 g1 g2 (Or.inr (vaL l1 l2 ok_nil)) (Or.inr (vaL l3 l4 okI)) c1 c2 kk), J, r1, r2⟩
theorem st_12 (I : InvL h x m O ko to T) (hb : inS Γ i) : StepL Γ nm h x m ko to i 12 := by
  obtain ⟨h1, h2, O', ko', to', c1, c2, ⟨g1, g2⟩, ⟨l1, l2⟩, ⟨l3, l4⟩, J, r1, r2⟩ := pair (as := []) I (CU.cm I.1 (c_tower (d := 0) I.1)) (fun h1 S => RfM.rmv (m_tower (d := 0) S))
  exact ⟨h2, O', ko', to', _, fun o h' kk => wt_12 (w_12 g1 g2 (Or.inr (vaL l1 l2 ok_nil)) (Or.inr (vaL l3 l4 okI)) c1 c2 kk), J, r1, r2⟩
theorem st_13 (I : InvL h x m O ko to T) (hb : inS Γ i) : StepL Γ nm h x m ko to i 13 := by
  obtain ⟨h1, h2, O', ko', to', c1, c2, ⟨g1, g2⟩, ⟨l1, l2⟩, ⟨l3, l4⟩, J, r1, r2⟩ := pair (as := [.int (sc Γ i 1), .int (sc Γ i 2)]) I (CQ.cm I.1 (c_personOf (d := 0) I.1)) (fun h1 S => RfQ.rmv (m_personOf (d := 0) S))
  exact ⟨h2, O', ko', to', _, fun o h' kk => wt_13 (w_13 hb g1 g2 (Or.inr (vaL l1 l2 ok_nil)) (Or.inr (vaL l3 l4 okI)) c1 c2 kk), J, r1, r2⟩
theorem st_14 (I : InvL h x m O ko to T) (hb : inS Γ i) : StepL Γ nm h x m ko to i 14 := by
  obtain ⟨h1, h2, O', ko', to', c1, c2, ⟨g1, g2⟩, ⟨l1, l2⟩, ⟨l3, l4⟩, J, r1, r2⟩ := pair (as := [.int (sc Γ i 1)]) I (CQ.cm I.1 (c_at (d := 0) I.1)) (fun h1 S => RfQ.rmv (m_at (d := 0) S))
  exact ⟨h2, O', ko', to', _, fun o h' kk => wt_14 (w_14 hb g1 g2 (Or.inr (vaL l1 l2 ok_nil)) (Or.inr (vaL l3 l4 okI)) c1 c2 kk), J, r1, r2⟩
theorem st_15 (I : InvL h x m O ko to T) (hb : inS Γ i) : StepL Γ nm h x m ko to i 15 := by
  obtain ⟨h1, h2, O', ko', to', c1, c2, ⟨g1, g2⟩, ⟨l1, l2⟩, ⟨l3, l4⟩, J, r1, r2⟩ := pair (as := [.int (sc Γ i 1), .int (sc Γ i 2)]) I (CQ.cm I.1 (c_of (d := 0) I.1)) (fun h1 S => RfQ.rmv (m_of (d := 0) S))
  exact ⟨h2, O', ko', to', _, fun o h' kk => wt_15 (w_15 hb g1 g2 (Or.inr (vaL l1 l2 ok_nil)) (Or.inr (vaL l3 l4 okI)) c1 c2 kk), J, r1, r2⟩
theorem st_16 (I : InvL h x m O ko to T) (hb : inS Γ i) : StepL Γ nm h x m ko to i 16 := by
  obtain ⟨h1, h2, O', ko', to', c1, c2, ⟨g1, g2⟩, ⟨l1, l2⟩, ⟨l3, l4⟩, J, r1, r2⟩ := pair (as := []) I (CQ.cm I.1 (c_stands (d := 0) I.1)) (fun h1 S => RfQ.rmv (m_stands (d := 0) S))
  exact ⟨h2, O', ko', to', _, fun o h' kk => wt_16 (w_16 g1 g2 (Or.inr (vaL l1 l2 ok_nil)) (Or.inr (vaL l3 l4 okI)) c1 c2 kk), J, r1, r2⟩
theorem st_17 (I : InvL h x m O ko to T) (hb : inS Γ i) : StepL Γ nm h x m ko to i 17 := by
  obtain ⟨h1, h2, O', ko', to', c1, c2, ⟨g1, g2⟩, ⟨l1, l2⟩, ⟨l3, l4⟩, J, r1, r2⟩ := pair (as := []) I (CQ.cm I.1 (c_weak (d := 0) I.1)) (fun h1 S => RfQ.rmv (m_weak (d := 0) S))
  exact ⟨h2, O', ko', to', _, fun o h' kk => wt_17 (w_17 g1 g2 (Or.inr (vaL l1 l2 ok_nil)) (Or.inr (vaL l3 l4 okI)) c1 c2 kk), J, r1, r2⟩
theorem st_18 (I : InvL h x m O ko to T) (hb : inS Γ i) : StepL Γ nm h x m ko to i 18 := by
  obtain ⟨h1, h2, O', ko', to', c1, c2, ⟨g1, g2⟩, ⟨l1, l2⟩, ⟨l3, l4⟩, J, r1, r2⟩ := pair (as := []) I (CQ.cm I.1 (c_height (d := 0) I.1)) (fun h1 S => RfQ.rmv (m_height (d := 0) S))
  exact ⟨h2, O', ko', to', _, fun o h' kk => wt_18 (w_18 g1 g2 (Or.inr (vaL l1 l2 ok_nil)) (Or.inr (vaL l3 l4 okI)) c1 c2 kk), J, r1, r2⟩
theorem st_19 (I : InvL h x m O ko to T) (hb : inS Γ i) : StepL Γ nm h x m ko to i 19 := by
  obtain ⟨h1, h2, O', ko', to', c1, c2, ⟨g1, g2⟩, ⟨l1, l2⟩, ⟨l3, l4⟩, J, r1, r2⟩ := pair (as := [.int (sc Γ i 1)]) I (CQ.cm I.1 (c_least (d := 0) I.1)) (fun h1 S => RfQ.rmv (m_least (d := 0) S))
  exact ⟨h2, O', ko', to', _, fun o h' kk => wt_19 (w_19 hb g1 g2 (Or.inr (vaL l1 l2 ok_nil)) (Or.inr (vaL l3 l4 okI)) c1 c2 kk), J, r1, r2⟩
theorem st_20 (I : InvL h x m O ko to T) (hb : inS Γ i) : StepL Γ nm h x m ko to i 20 := by
  obtain ⟨h1, h2, O', ko', to', c1, c2, ⟨g1, g2⟩, ⟨l1, l2⟩, ⟨l3, l4⟩, J, r1, r2⟩ := pair (as := [.int (sc Γ i 1), .int (sc Γ i 2)]) I (CQ.cm I.1 (c_orders (d := 0) I.1)) (fun h1 S => RfQ.rmv (m_orders (d := 0) S))
  exact ⟨h2, O', ko', to', _, fun o h' kk => wt_20 (w_20 hb g1 g2 (Or.inr (vaL l1 l2 ok_nil)) (Or.inr (vaL l3 l4 okI)) c1 c2 kk), J, r1, r2⟩
theorem st_21 (I : InvL h x m O ko to T) (hb : inS Γ i) : StepL Γ nm h x m ko to i 21 := by
  obtain ⟨h1, h2, O', ko', to', c1, c2, ⟨g1, g2⟩, ⟨l1, l2⟩, ⟨l3, l4⟩, J, r1, r2⟩ := pair (as := [.int (sc Γ i 1)]) I (CQ.cm I.1 (c_highest (d := 0) I.1)) (fun h1 S => RfQ.rmv (m_highest (d := 0) S))
  exact ⟨h2, O', ko', to', _, fun o h' kk => wt_21 (w_21 hb g1 g2 (Or.inr (vaL l1 l2 ok_nil)) (Or.inr (vaL l3 l4 okI)) c1 c2 kk), J, r1, r2⟩
theorem st_22 (I : InvL h x m O ko to T) (hb : inS Γ i) : StepL Γ nm h x m ko to i 22 := by
  obtain ⟨h1, h2, O', ko', to', c1, c2, ⟨g1, g2⟩, ⟨l1, l2⟩, ⟨l3, l4⟩, J, r1, r2⟩ := pair (as := [.int (sc Γ i 1), .int (sc Γ i 2)]) I (CQ.cm I.1 (c_fond (d := 0) I.1)) (fun h1 S => RfQ.rmv (m_fond (d := 0) S))
  exact ⟨h2, O', ko', to', _, fun o h' kk => wt_22 (w_22 hb g1 g2 (Or.inr (vaL l1 l2 ok_nil)) (Or.inr (vaL l3 l4 okI)) c1 c2 kk), J, r1, r2⟩
theorem st_23 (I : InvL h x m O ko to T) (hb : inS Γ i) : StepL Γ nm h x m ko to i 23 := by
  obtain ⟨h1, h2, O', ko', to', c1, c2, ⟨g1, g2⟩, ⟨l1, l2⟩, ⟨l3, l4⟩, J, r1, r2⟩ := pair (as := [.int (sc Γ i 1)]) I (CQ.cm I.1 (c_glad (d := 0) I.1)) (fun h1 S => RfQ.rmv (m_glad (d := 0) S))
  exact ⟨h2, O', ko', to', _, fun o h' kk => wt_23 (w_23 hb g1 g2 (Or.inr (vaL l1 l2 ok_nil)) (Or.inr (vaL l3 l4 okI)) c1 c2 kk), J, r1, r2⟩
theorem st_24 (I : InvL h x m O ko to T) (hb : inS Γ i) : StepL Γ nm h x m ko to i 24 := by
  obtain ⟨h1, h2, O', ko', to', c1, c2, ⟨g1, g2⟩, ⟨l1, l2⟩, ⟨l3, l4⟩, J, r1, r2⟩ := pair (as := [.int (sc Γ i 1), .int (sc Γ i 2), .int (sc Γ i 3)]) I (CQ.cm I.1 (c_backs (d := 0) I.1)) (fun h1 S => RfQ.rmv (m_backs (d := 0) S))
  exact ⟨h2, O', ko', to', _, fun o h' kk => wt_24 (w_24 hb g1 g2 (Or.inr (vaL l1 l2 ok_nil)) (Or.inr (vaL l3 l4 okI)) c1 c2 kk), J, r1, r2⟩
theorem st_25 (I : InvL h x m O ko to T) (hb : inS Γ i) : StepL Γ nm h x m ko to i 25 := by
  obtain ⟨h1, h2, O', ko', to', c1, c2, ⟨g1, g2⟩, ⟨l1, l2⟩, ⟨l3, l4⟩, J, r1, r2⟩ := pair (as := []) I (CQ.cm I.1 (c_under (d := 0) I.1)) (fun h1 S => RfQ.rmv (m_under (d := 0) S))
  exact ⟨h2, O', ko', to', _, fun o h' kk => wt_25 (w_25 g1 g2 (Or.inr (vaL l1 l2 ok_nil)) (Or.inr (vaL l3 l4 okI)) c1 c2 kk), J, r1, r2⟩
theorem st_26 (I : InvL h x m O ko to T) (hb : inS Γ i) : StepL Γ nm h x m ko to i 26 := by
  obtain ⟨h1, h2, O', ko', to', c1, c2, ⟨g1, g2⟩, ⟨l1, l2⟩, ⟨l3, l4⟩, J, r1, r2⟩ := pair (as := []) I (CQ.cm I.1 (c_change (d := 0) I.1)) (fun h1 S => RfQ.rmv (m_change (d := 0) S))
  exact ⟨h2, O', ko', to', _, fun o h' kk => wt_26 (w_26 g1 g2 (Or.inr (vaL l1 l2 ok_nil)) (Or.inr (vaL l3 l4 okI)) c1 c2 kk), J, r1, r2⟩
theorem st_27 (I : InvL h x m O ko to T) (hb : inS Γ i) : StepL Γ nm h x m ko to i 27 := by
  obtain ⟨h1, h2, O', ko', to', c1, c2, ⟨g1, g2⟩, ⟨l1, l2⟩, ⟨l3, l4⟩, J, r1, r2⟩ := pair (as := []) I (CQ.cm I.1 (c_out (d := 0) I.1)) (fun h1 S => RfQ.rmv (m_out (d := 0) S))
  exact ⟨h2, O', ko', to', _, fun o h' kk => wt_27 (w_27 g1 g2 (Or.inr (vaL l1 l2 ok_nil)) (Or.inr (vaL l3 l4 okI)) c1 c2 kk), J, r1, r2⟩
theorem st_28 (I : InvL h x m O ko to T) (hb : inS Γ i) : StepL Γ nm h x m ko to i 28 := by
  obtain ⟨h1, h2, O', ko', to', c1, c2, ⟨g1, g2⟩, ⟨l1, l2⟩, ⟨l3, l4⟩, J, r1, r2⟩ := pair (as := []) I (CQ.cm I.1 (c_gale (d := 0) I.1)) (fun h1 S => RfQ.rmv (m_gale (d := 0) S))
  exact ⟨h2, O', ko', to', _, fun o h' kk => wt_28 (w_28 g1 g2 (Or.inr (vaL l1 l2 ok_nil)) (Or.inr (vaL l3 l4 okI)) c1 c2 kk), J, r1, r2⟩
theorem st_29 (I : InvL h x m O ko to T) (hb : inS Γ i) : StepL Γ nm h x m ko to i 29 := by
  obtain ⟨h1, h2, O', ko', to', c1, c2, ⟨g1, g2⟩, ⟨l1, l2⟩, ⟨l3, l4⟩, J, r1, r2⟩ := pair (as := []) I (CQ.cm I.1 (c_chance (d := 0) I.1)) (fun h1 S => RfQ.rmv (m_chance (d := 0) S))
  exact ⟨h2, O', ko', to', _, fun o h' kk => wt_29 (w_29 g1 g2 (Or.inr (vaL l1 l2 ok_nil)) (Or.inr (vaL l3 l4 okI)) c1 c2 kk), J, r1, r2⟩
theorem st_30 (I : InvL h x m O ko to T) (hb : inS Γ i) : StepL Γ nm h x m ko to i 30 := by
  obtain ⟨h1, h2, O', ko', to', c1, c2, ⟨g1, g2⟩, ⟨l1, l2⟩, ⟨l3, l4⟩, J, r1, r2⟩ := pair (as := []) I (CQ.cm I.1 (c_fittest (d := 0) I.1)) (fun h1 S => RfQ.rmv (m_fittest (d := 0) S))
  exact ⟨h2, O', ko', to', _, fun o h' kk => wt_30 (w_30 g1 g2 (Or.inr (vaL l1 l2 ok_nil)) (Or.inr (vaL l3 l4 okI)) c1 c2 kk), J, r1, r2⟩
theorem st_31 (I : InvL h x m O ko to T) (hb : inS Γ i) : StepL Γ nm h x m ko to i 31 := by
  obtain ⟨h1, h2, O', ko', to', c1, c2, ⟨g1, g2⟩, ⟨l1, l2⟩, ⟨l3, l4⟩, J, r1, r2⟩ := pair (as := [.int (sc Γ i 1), .int (sc Γ i 2)]) I (CQ.cm I.1 (c_ahead (d := 0) I.1)) (fun h1 S => RfQ.rmv (m_ahead (d := 0) S))
  exact ⟨h2, O', ko', to', _, fun o h' kk => wt_31 (w_31 hb g1 g2 (Or.inr (vaL l1 l2 ok_nil)) (Or.inr (vaL l3 l4 okI)) c1 c2 kk), J, r1, r2⟩
theorem st_32 (I : InvL h x m O ko to T) (hb : inS Γ i) : StepL Γ nm h x m ko to i 32 := by
  obtain ⟨h1, h2, O', ko', to', c1, c2, ⟨g1, g2⟩, ⟨l1, l2⟩, ⟨l3, l4⟩, J, r1, r2⟩ := pair (as := []) I (CQ.cm I.1 (c_next (d := 0) I.1)) (fun h1 S => RfQ.rmv (m_next (d := 0) S))
  exact ⟨h2, O', ko', to', _, fun o h' kk => wt_32 (w_32 g1 g2 (Or.inr (vaL l1 l2 ok_nil)) (Or.inr (vaL l3 l4 okI)) c1 c2 kk), J, r1, r2⟩
theorem st_33 (I : InvL h x m O ko to T) (hb : inS Γ i) : StepL Γ nm h x m ko to i 33 := by
  obtain ⟨h1, h2, O', ko', to', c1, c2, ⟨g1, g2⟩, ⟨l1, l2⟩, ⟨l3, l4⟩, J, r1, r2⟩ := pair (as := [.int (sc Γ i 1)]) I (CQ.cm I.1 (c_who (d := 0) I.1)) (fun h1 S => RfQ.rmv (m_who (d := 0) S))
  exact ⟨h2, O', ko', to', _, fun o h' kk => wt_33 (w_33 hb g1 g2 (Or.inr (vaL l1 l2 ok_nil)) (Or.inr (vaL l3 l4 okI)) c1 c2 kk), J, r1, r2⟩
theorem st_34 (I : InvL h x m O ko to T) (hb : inS Γ i) : StepL Γ nm h x m ko to i 34 := by
  obtain ⟨h1, h2, O', ko', to', c1, c2, ⟨g1, g2⟩, ⟨l1, l2⟩, ⟨l3, l4⟩, J, r1, r2⟩ := pair (as := [.int (sc Γ i 1)]) I (CQ.cm I.1 (c_room (d := 0) I.1)) (fun h1 S => RfQ.rmv (m_room (d := 0) S))
  exact ⟨h2, O', ko', to', _, fun o h' kk => wt_34 (w_34 hb g1 g2 (Or.inr (vaL l1 l2 ok_nil)) (Or.inr (vaL l3 l4 okI)) c1 c2 kk), J, r1, r2⟩
theorem st_35 (I : InvL h x m O ko to T) (hb : inS Γ i) : StepL Γ nm h x m ko to i 35 := by
  obtain ⟨h1, h2, O', ko', to', c1, c2, ⟨g1, g2⟩, ⟨l1, l2⟩, ⟨l3, l4⟩, J, r1, r2⟩ := pair (as := [.int (sc Γ i 1)]) I (CQ.cm I.1 (c_needs (d := 0) I.1)) (fun h1 S => RfQ.rmv (m_needs (d := 0) S))
  exact ⟨h2, O', ko', to', _, fun o h' kk => wt_35 (w_35 hb g1 g2 (Or.inr (vaL l1 l2 ok_nil)) (Or.inr (vaL l3 l4 okI)) c1 c2 kk), J, r1, r2⟩
theorem st_36 (I : InvL h x m O ko to T) (hb : inS Γ i) : StepL Γ nm h x m ko to i 36 := by
  obtain ⟨h1, h2, O', ko', to', c1, c2, ⟨g1, g2⟩, ⟨l1, l2⟩, ⟨l3, l4⟩, J, r1, r2⟩ := pair (as := [.int (sc Γ i 1)]) I (CQ.cm I.1 (c_nerves (d := 0) I.1)) (fun h1 S => RfQ.rmv (m_nerves (d := 0) S))
  exact ⟨h2, O', ko', to', _, fun o h' kk => wt_36 (w_36 hb g1 g2 (Or.inr (vaL l1 l2 ok_nil)) (Or.inr (vaL l3 l4 okI)) c1 c2 kk), J, r1, r2⟩
theorem st_37 (I : InvL h x m O ko to T) (hb : inS Γ i) : StepL Γ nm h x m ko to i 37 := by
  obtain ⟨h1, h2, O', ko', to', c1, c2, ⟨g1, g2⟩, ⟨l1, l2⟩, ⟨l3, l4⟩, J, r1, r2⟩ := pair (as := [.int (sc Γ i 1)]) I (CQ.cm I.1 (c_foot (d := 0) I.1)) (fun h1 S => RfQ.rmv (m_foot (d := 0) S))
  exact ⟨h2, O', ko', to', _, fun o h' kk => wt_37 (w_37 hb g1 g2 (Or.inr (vaL l1 l2 ok_nil)) (Or.inr (vaL l3 l4 okI)) c1 c2 kk), J, r1, r2⟩
theorem st_38 (I : InvL h x m O ko to T) (hb : inS Γ i) : StepL Γ nm h x m ko to i 38 := by
  obtain ⟨h1, h2, O', ko', to', c1, c2, ⟨g1, g2⟩, ⟨l1, l2⟩, ⟨l3, l4⟩, J, r1, r2⟩ := pair (as := []) I (CQ.cm I.1 (c_mass (d := 0) I.1)) (fun h1 S => RfQ.rmv (m_mass (d := 0) S))
  exact ⟨h2, O', ko', to', _, fun o h' kk => wt_38 (w_38 g1 g2 (Or.inr (vaL l1 l2 ok_nil)) (Or.inr (vaL l3 l4 okI)) c1 c2 kk), J, r1, r2⟩
theorem st_39 (I : InvL h x m O ko to T) (hb : inS Γ i) : StepL Γ nm h x m ko to i 39 := by
  obtain ⟨h1, h2, O', ko', to', c1, c2, ⟨g1, g2⟩, ⟨l1, l2⟩, ⟨l3, l4⟩, J, r1, r2⟩ := pair (as := []) I (CQ.cm I.1 (c_gladness (d := 0) I.1)) (fun h1 S => RfQ.rmv (m_gladness (d := 0) S))
  exact ⟨h2, O', ko', to', _, fun o h' kk => wt_39 (w_39 g1 g2 (Or.inr (vaL l1 l2 ok_nil)) (Or.inr (vaL l3 l4 okI)) c1 c2 kk), J, r1, r2⟩
theorem st_40 (I : InvL h x m O ko to T) (hb : inS Γ i) : StepL Γ nm h x m ko to i 40 := by
  obtain ⟨h1, h2, O', ko', to', c1, c2, ⟨g1, g2⟩, ⟨l1, l2⟩, ⟨l3, l4⟩, J, r1, r2⟩ := pair (as := [.int (sc Γ i 1), .int (sc Γ i 2)]) I (CQ.cm I.1 (c_ends (d := 0) I.1)) (fun h1 S => RfQ.rmv (m_ends (d := 0) S))
  exact ⟨h2, O', ko', to', _, fun o h' kk => wt_40 (w_40 hb g1 g2 (Or.inr (vaL l1 l2 ok_nil)) (Or.inr (vaL l3 l4 okI)) c1 c2 kk), J, r1, r2⟩
theorem st_41 (I : InvL h x m O ko to T) (hb : inS Γ i) : StepL Γ nm h x m ko to i 41 := by
  obtain ⟨h1, h2, O', ko', to', c1, c2, ⟨g1, g2⟩, ⟨l1, l2⟩, ⟨l3, l4⟩, J, r1, r2⟩ := pair (as := []) I (CQ.cm I.1 (c_lighter (d := 0) I.1)) (fun h1 S => RfQ.rmv (m_lighter (d := 0) S))
  exact ⟨h2, O', ko', to', _, fun o h' kk => wt_41 (w_41 g1 g2 (Or.inr (vaL l1 l2 ok_nil)) (Or.inr (vaL l3 l4 okI)) c1 c2 kk), J, r1, r2⟩
theorem st_42 (I : InvL h x m O ko to T) (hb : inS Γ i) : StepL Γ nm h x m ko to i 42 := by
  obtain ⟨h1, h2, O', ko', to', c1, c2, ⟨g1, g2⟩, ⟨l1, l2⟩, ⟨l3, l4⟩, J, r1, r2⟩ := pair (as := [.int (sc Γ i 1), .int (sc Γ i 2)]) I (CQ.cm I.1 (c_shifted (d := 0) I.1)) (fun h1 S => RfQ.rmv (m_shifted (d := 0) S))
  exact ⟨h2, O', ko', to', _, fun o h' kk => wt_42 (w_42 hb g1 g2 (Or.inr (vaL l1 l2 ok_nil)) (Or.inr (vaL l3 l4 okI)) c1 c2 kk), J, r1, r2⟩
theorem st_43 (I : InvL h x m O ko to T) (hb : inS Γ i) : StepL Γ nm h x m ko to i 43 := by
  obtain ⟨h1, h2, O', ko', to', c1, c2, ⟨g1, g2⟩, ⟨l1, l2⟩, ⟨l3, l4⟩, J, r1, r2⟩ := pair (as := [.int (sc Γ i 1)]) I (CQ.cm I.1 (c_between (d := 0) I.1)) (fun h1 S => RfQ.rmv (m_between (d := 0) S))
  exact ⟨h2, O', ko', to', _, fun o h' kk => wt_43 (w_43 hb g1 g2 (Or.inr (vaL l1 l2 ok_nil)) (Or.inr (vaL l3 l4 okI)) c1 c2 kk), J, r1, r2⟩
theorem st_44 (I : InvL h x m O ko to T) (hb : inS Γ i) : StepL Γ nm h x m ko to i 44 := by
  obtain ⟨h1, h2, O', ko', to', c1, c2, ⟨g1, g2⟩, ⟨l1, l2⟩, ⟨l3, l4⟩, J, r1, r2⟩ := pair (as := []) I (CQ.cm I.1 (c_top (d := 0) I.1)) (fun h1 S => RfQ.rmv (m_top (d := 0) S))
  exact ⟨h2, O', ko', to', _, fun o h' kk => wt_44 (w_44 g1 g2 (Or.inr (vaL l1 l2 ok_nil)) (Or.inr (vaL l3 l4 okI)) c1 c2 kk), J, r1, r2⟩
theorem st_45 (I : InvL h x m O ko to T) (hb : inS Γ i) : StepL Γ nm h x m ko to i 45 := by
  obtain ⟨h1, h2, O', ko', to', c1, c2, ⟨g1, g2⟩, ⟨l1, l2⟩, ⟨l3, l4⟩, J, r1, r2⟩ := pair (as := [.int (sc Γ i 1)]) I (CQ.cm I.1 (c_ofKind (d := 0) I.1)) (fun h1 S => RfQ.rmv (m_ofKind (d := 0) S))
  exact ⟨h2, O', ko', to', _, fun o h' kk => wt_45 (w_45 hb g1 g2 (Or.inr (vaL l1 l2 ok_nil)) (Or.inr (vaL l3 l4 okI)) c1 c2 kk), J, r1, r2⟩
theorem st_46 (I : InvL h x m O ko to T) (hb : inS Γ i) : StepL Γ nm h x m ko to i 46 := by
  obtain ⟨h1, h2, O', ko', to', c1, c2, ⟨g1, g2⟩, ⟨l1, l2⟩, ⟨l3, l4⟩, J, r1, r2⟩ := pair (as := [.int (sc Γ i 1), .int (sc Γ i 2)]) I (CQ.cm I.1 (c_judge (d := 0) I.1)) (fun h1 S => RfQ.rmv (m_judge (d := 0) S))
  exact ⟨h2, O', ko', to', _, fun o h' kk => wt_46 (w_46 hb g1 g2 (Or.inr (vaL l1 l2 ok_nil)) (Or.inr (vaL l3 l4 okI)) c1 c2 kk), J, r1, r2⟩
theorem st_47 (I : InvL h x m O ko to T) (hb : inS Γ i) : StepL Γ nm h x m ko to i 47 := by
  obtain ⟨h1, h2, O', ko', to', c1, c2, ⟨g1, g2⟩, ⟨l1, l2⟩, ⟨l3, l4⟩, J, r1, r2⟩ := pair (as := [.int (sc Γ i 1), .int (sc Γ i 2)]) I (CQ.cm I.1 (c_breaks (d := 0) I.1)) (fun h1 S => RfQ.rmv (m_breaks (d := 0) S))
  exact ⟨h2, O', ko', to', _, fun o h' kk => wt_47 (w_47 hb g1 g2 (Or.inr (vaL l1 l2 ok_nil)) (Or.inr (vaL l3 l4 okI)) c1 c2 kk), J, r1, r2⟩
theorem st_48 (I : InvL h x m O ko to T) (hb : inS Γ i) : StepL Γ nm h x m ko to i 48 := by
  obtain ⟨h1, h2, O', ko', to', c1, c2, ⟨g1, g2⟩, ⟨l1, l2⟩, ⟨l3, l4⟩, J, r1, r2⟩ := pair (as := [.int (sc Γ i 1)]) I (CU.cm I.1 (c_climb (d := 0) I.1)) (fun h1 S => RfU.rmv (m_climb (d := 0) S))
  exact ⟨h2, O', ko', to', _, fun o h' kk => wt_48 (w_48 hb g1 g2 (Or.inr (vaL l1 l2 ok_nil)) (Or.inr (vaL l3 l4 okI)) c1 c2 kk), J, r1, r2⟩
theorem st_49 (I : InvL h x m O ko to T) (hb : inS Γ i) : StepL Γ nm h x m ko to i 49 := by
  obtain ⟨h1, h2, O', ko', to', c1, c2, ⟨g1, g2⟩, ⟨l1, l2⟩, ⟨l3, l4⟩, J, r1, r2⟩ := pair (as := []) I (CU.cm I.1 (c_comesOut (d := 0) I.1)) (fun h1 S => RfU.rmv (m_comesOut (d := 0) S))
  exact ⟨h2, O', ko', to', _, fun o h' kk => wt_49 (w_49 g1 g2 (Or.inr (vaL l1 l2 ok_nil)) (Or.inr (vaL l3 l4 okI)) c1 c2 kk), J, r1, r2⟩
theorem st_50 (I : InvL h x m O ko to T) (hb : inS Γ i) : StepL Γ nm h x m ko to i 50 := by
  obtain ⟨h1, h2, O', ko', to', c1, c2, ⟨g1, g2⟩, ⟨l1, l2⟩, ⟨l3, l4⟩, J, r1, r2⟩ := pair (as := [.int (sc Γ i 1)]) I (CU.cm I.1 (c_days (d := 0) I.1)) (fun h1 S => RfU.rmv (m_days (d := 0) S))
  exact ⟨h2, O', ko', to', _, fun o h' kk => wt_50 (w_50 hb g1 g2 (Or.inr (vaL l1 l2 ok_nil)) (Or.inr (vaL l3 l4 okI)) c1 c2 kk), J, r1, r2⟩
theorem st_51 (I : InvL h x m O ko to T) (hb : inS Γ i) : StepL Γ nm h x m ko to i 51 := by
  obtain ⟨h1, h2, O', ko', to', c1, c2, ⟨g1, g2⟩, ⟨l1, l2⟩, ⟨l3, l4⟩, J, r1, r2⟩ := pair (as := [.int (sc Γ i 1)]) I (CU.cm I.1 (c_drawn (d := 0) I.1)) (fun h1 S => RfU.rmv (m_drawn (d := 0) S))
  exact ⟨h2, O', ko', to', _, fun o h' kk => wt_51 (w_51 hb g1 g2 (Or.inr (vaL l1 l2 ok_nil)) (Or.inr (vaL l3 l4 okI)) c1 c2 kk), J, r1, r2⟩
theorem st_52 (I : InvL h x m O ko to T) (hb : inS Γ i) : StepL Γ nm h x m ko to i 52 := by
  obtain ⟨h1, h2, O', ko', to', c1, c2, ⟨g1, g2⟩, ⟨l1, l2⟩, ⟨l3, l4⟩, J, r1, r2⟩ := pair (as := [.int (sc Γ i 1)]) I (CU.cm I.1 (c_seed (d := 0) I.1)) (fun h1 S => RfU.rmv (m_seed (d := 0) S))
  exact ⟨h2, O', ko', to', _, fun o h' kk => wt_52 (w_52 hb g1 g2 (Or.inr (vaL l1 l2 ok_nil)) (Or.inr (vaL l3 l4 okI)) c1 c2 kk), J, r1, r2⟩
theorem st_53 (I : InvL h x m O ko to T) (hb : inS Γ i) : StepL Γ nm h x m ko to i 53 := by
  obtain ⟨h1, h2, O', ko', to', c1, c2, ⟨g1, g2⟩, ⟨l1, l2⟩, ⟨l3, l4⟩, J, r1, r2⟩ := pair (as := []) I (CU.cm I.1 (c_image (d := 0) I.1)) (fun h1 S => RfM.rmv (m_image (d := 0) S))
  exact ⟨h2, O', ko', to', _, fun o h' kk => wt_53 (w_53 g1 g2 (Or.inr (vaL l1 l2 ok_nil)) (Or.inr (vaL l3 l4 okI)) c1 c2 kk), J, r1, r2⟩
theorem st_54 (I : InvL h x m O ko to T) (hb : inS Γ i) : StepL Γ nm h x m ko to i 54 := by
  obtain ⟨h1, h2, O', ko', to', c1, c2, ⟨g1, g2⟩, ⟨l1, l2⟩, ⟨l3, l4⟩, J, r1, r2⟩ := pair (as := []) I (CU.cm I.1 (c_back (d := 0) I.1)) (fun h1 S => RfU.rmv (m_back (d := 0) S))
  exact ⟨h2, O', ko', to', _, fun o h' kk => wt_54 (w_54 g1 g2 (Or.inr (vaL l1 l2 ok_nil)) (Or.inr (vaL l3 l4 okI)) c1 c2 kk), J, r1, r2⟩
theorem st_55 (I : InvL h x m O ko to T) (hb : inS Γ i) : StepL Γ nm h x m ko to i 55 := by
  obtain ⟨h1, h2, O', ko', to', c1, c2, ⟨g1, g2⟩, ⟨l1, l2⟩, ⟨l3, l4⟩, J, r1, r2⟩ := pair (as := [.int (sc Γ i 1)]) I (JMt.cm I.1 (c_status (d := 0) I.1)) (fun h1 S => JMt.rmv S (m_status (d := 0) S))
  exact ⟨h2, O', ko', to', _, fun o h' kk => wt_55 (w_55 hb g1 g2 (Or.inr (vaL l1 l2 ok_nil)) (Or.inr (vaL l3 l4 okI)) c1 c2 kk), J, r1, r2⟩
theorem st_all (I : InvL h x m O ko to T) (hb : inS Γ i) : ∀ k, k < 64 → StepL Γ nm h x m ko to i k := fun k hk => match k, hk with
  | 0, _ => st_0 I hb
  | 1, _ => st_1 I hb
  | 2, _ => st_2 I hb
  | 3, _ => st_3 I hb
  | 4, _ => st_4 I hb
  | 5, _ => st_5 I hb
  | 6, _ => st_6 I hb
  | 7, _ => st_7 I hb
  | 8, _ => st_8 I hb
  | 9, _ => st_9 I hb
  | 10, _ => st_10 I hb
  | 11, _ => st_11 I hb
  | 12, _ => st_12 I hb
  | 13, _ => st_13 I hb
  | 14, _ => st_14 I hb
  | 15, _ => st_15 I hb
  | 16, _ => st_16 I hb
  | 17, _ => st_17 I hb
  | 18, _ => st_18 I hb
  | 19, _ => st_19 I hb
  | 20, _ => st_20 I hb
  | 21, _ => st_21 I hb
  | 22, _ => st_22 I hb
  | 23, _ => st_23 I hb
  | 24, _ => st_24 I hb
  | 25, _ => st_25 I hb
  | 26, _ => st_26 I hb
  | 27, _ => st_27 I hb
  | 28, _ => st_28 I hb
  | 29, _ => st_29 I hb
  | 30, _ => st_30 I hb
  | 31, _ => st_31 I hb
  | 32, _ => st_32 I hb
  | 33, _ => st_33 I hb
  | 34, _ => st_34 I hb
  | 35, _ => st_35 I hb
  | 36, _ => st_36 I hb
  | 37, _ => st_37 I hb
  | 38, _ => st_38 I hb
  | 39, _ => st_39 I hb
  | 40, _ => st_40 I hb
  | 41, _ => st_41 I hb
  | 42, _ => st_42 I hb
  | 43, _ => st_43 I hb
  | 44, _ => st_44 I hb
  | 45, _ => st_45 I hb
  | 46, _ => st_46 I hb
  | 47, _ => st_47 I hb
  | 48, _ => st_48 I hb
  | 49, _ => st_49 I hb
  | 50, _ => st_50 I hb
  | 51, _ => st_51 I hb
  | 52, _ => st_52 I hb
  | 53, _ => st_53 I hb
  | 54, _ => st_54 I hb
  | 55, _ => st_55 I hb
  | k + 56, hk => ⟨h, O, ko, to, T, fun o h' kk => wt_out (by omega) hk kk, I, by omega, by omega⟩
end ST
/-- the six low bits -/
theorem and63 (a : Int32) : ∃ k, k < 64 ∧ a &&& 63 = nI k := by
  refine ⟨(a.toBitVec &&& 63#32).toNat, ?_, ?_⟩
  · have : (a.toBitVec &&& 63#32).toNat ≤ 63 := by
      rw [BitVec.toNat_and]
      exact Nat.and_le_right
    omega
  · apply Int32.toBitVec_inj.mp
    show a.toBitVec &&& 63#32 = BitVec.ofNat 32 (a.toBitVec &&& 63#32).toNat
    rw [BitVec.ofNat_toNat, BitVec.setWidth_eq]
section LL
variable {Γ : GA} {nm : String} {x m : Nat}
theorem l_law (hL : Γ.2.2.2.1 ≤ 3072) : ∀ n i (h : PH) (O : Nat → Prop) (ko to : Option Nat) (T : TS), Γ.2.2.2.1 < i + 6 + 6 * n → i ≤ 4000 → InvL h x m O ko to T →
    ∃ h', JG Γ (mL nm) (0 + 10 + 1) 18 (lsL x m (nI i)) [] h (some (.int 1)) h' ∧ hn h' ≤ hn h + 285 * (restN ko + restN to) + 2 * n ∧ hs h' ≤ hs h + 3829 * (restN ko + restN to) + 42 * n := by
  have eL : Int32.ofNat Γ.2.2.2.1 - 6 = sI ((Γ.2.2.2.1 : Int) - 6) := by
    show nI Γ.2.2.2.1 - (6 : Int32) = _
    rw [show (6 : Int32) = nI 6 from rfl, nI_nsub]
    rfl
  intro n
  induction n with
  | zero =>
    intro i h O ko to T hn' hi I
    have hlt : Int32.ofNat Γ.2.2.2.1 - 6 < nI i := by
      rw [eL, nI_sI, sI_lt (by omega) (by omega) (by omega) (by omega)]
      omega
    exact ⟨h, w_loop (Or.inl hlt) (fun _ => w_end) (fun z => absurd hlt z), by omega, by omega⟩
  | succ n ih =>
    intro i h O ko to T hn' hi I
    by_cases hlt : Int32.ofNat Γ.2.2.2.1 - 6 < nI i
    · exact ⟨h, w_loop (Or.inl hlt) (fun _ => w_end) (fun z => absurd hlt z), by omega, by omega⟩
    · have hle : i + 6 ≤ Γ.2.2.2.1 := by
        rw [eL, nI_sI, sI_lt (by omega) (by omega) (by omega) (by omega)] at hlt
        omega
      have hb : inS Γ (nI i) := by
        refine ⟨?_, ?_, ?_, ?_, ?_⟩
        · rw [show (1 : Int32) = nI 1 from rfl, nI_add]; exact vp_in_nI (by omega) (by omega)
        · rw [show (2 : Int32) = nI 2 from rfl, nI_add]; exact vp_in_nI (by omega) (by omega)
        · rw [show (3 : Int32) = nI 3 from rfl, nI_add]; exact vp_in_nI (by omega) (by omega)
        · rw [show (4 : Int32) = nI 4 from rfl, nI_add]; exact vp_in_nI (by omega) (by omega)
        · rw [show (5 : Int32) = nI 5 from rfl, nI_add]; exact vp_in_nI (by omega) (by omega)
      obtain ⟨k, hk, ek⟩ := and63 (Γ.2.2.2.2 (nI i).toNatClampNeg)
      obtain ⟨h2, O', ko', to', T', s1, s2, s3, s4⟩ := st_all (nm := nm) I hb k hk
      obtain ⟨h', j1, j2, j3⟩ := ih (i + 6) h2 O' ko' to' T' (by omega) (by omega) s2
      refine ⟨h', w_loop (Or.inr (vp_in_nI (by omega) (by omega))) (fun z => absurd z hlt) (fun _ => ?_), by omega, by omega⟩
      rw [ek]
      refine s1 _ _ (w_next ?_)
      rw [show (6 : Int32) = nI 6 from rfl, nI_add]
      exact j1
/-- the law from its first instruction on: it ends with 1 -/
theorem law_whole (hL : Γ.2.2.2.1 ≤ 3072) : ∃ h', JG Γ (mL nm) (0 + 10 + 1) 0 [some (.retAddr 5), none, none, none] [] ((0, 0, (fun _ => (0, 0)), (fun _ _ => 0), (fun _ _ => 0), fun _ _ => none) : PH) (some (.int 1)) h' ∧ hn h' ≤ 600000 ∧ hs h' ≤ 7302250 := by
  generalize hz : ((0, 0, (fun _ => (0, 0)), (fun _ _ => 0), (fun _ _ => 0), fun _ _ => none) : PH) = h
  have n0 : hn h = 0 := by rw [← hz]; rfl
  have s0 : hs h = 0 := by rw [← hz]; rfl
  obtain ⟨h4, a1, a2, a3, a4, a5⟩ := n_X7 (d := 7) (h := newC h 7 (fN 7) (fN 7)) (x := hn h) newG rfl (fun k => ⟨newI, newR⟩)
  obtain ⟨h6, b1, b2, b3, b4, b5⟩ := n_X8 (d := 9) (h := newC h4 8 (fN 8) (fN 8)) (m := hn h4) newG rfl (fun k => ⟨newI, newR⟩)
  have C : Chg (fun i => i = hn h4) h4 h6 := ((Chg.newC (S := fun i => i = hn h4)).tr b4)
  have e3 : hs h4 = 3893 := by rw [a3]; show hs h + 11 + 3882 = 3893; omega
  have e6 : hs h6 = 7722 := by rw [b3]; show hs h4 + 38 + 3791 = 7722; omega
  have I : InvL h6 (hn h) (hn h4) (inX (hn h)) none none t0S := by
    refine ⟨a5.chg C (fun i hi y => by unfold inX at hi; omega), b5, fun i hi => ?_⟩
    unfold inX at hi
    refine ⟨by omega, fun q => ?_⟩
    rcases q with q | ⟨k, e, -⟩ | ⟨t, e, -⟩
    · omega
    · cases e
    · cases e
  obtain ⟨h', j1, j2, j3⟩ := l_law (Γ := Γ) (nm := nm) hL 512 0 h6 _ _ _ _ (by omega) (by omega) I
  have r2 : restN none = 1 := rfl
  rw [r2] at j2 j3
  exact ⟨h', w_start a1 (by omega) b1 j1, by omega, by omega⟩
end LL
