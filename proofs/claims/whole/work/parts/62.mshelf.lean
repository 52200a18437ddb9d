/-! shelves of the reference -/
/-- what changes: ints by place, longs by cell -/
def Upr (F : Nat → Nat → Prop) (G : Nat → Prop) (h h1 : PH) : Prop := hn h1 = hn h ∧ hs h1 = hs h ∧ hT h1 = hT h ∧ hR h1 = hR h ∧ (∀ i, ¬ G i → hL h1 i = hL h i) ∧ ∀ i k, ¬ F i k → hI h1 i k = hI h i k
section UR
variable {F F' : Nat → Nat → Prop} {G G' : Nat → Prop} {h h1 h2 : PH} {m : Nat} {ko to : Option Nat} {T : TS}
theorem Upr.rf : Upr F G h h := ⟨rfl, rfl, rfl, rfl, fun _ _ => rfl, fun _ _ _ => rfl⟩
theorem Upr.tr (a : Upr F G h h1) (b : Upr F G h1 h2) : Upr F G h h2 := ⟨b.1.trans a.1, b.2.1.trans a.2.1, b.2.2.1.trans a.2.2.1, b.2.2.2.1.trans a.2.2.2.1, fun i q => (b.2.2.2.2.1 i q).trans (a.2.2.2.2.1 i q), fun i k q => (b.2.2.2.2.2 i k q).trans (a.2.2.2.2.2 i k q)⟩
theorem Upr.mono (a : Upr F G h h1) (hf : ∀ i k, F i k → F' i k) (hg : ∀ i, G i → G' i) : Upr F' G' h h1 := ⟨a.1, a.2.1, a.2.2.1, a.2.2.2.1, fun i q => a.2.2.2.2.1 i (fun w => q (hg i w)), fun i k q => a.2.2.2.2.2 i k (fun w => q (hf i k w))⟩
theorem Upf.upr (a : Upf F h h1) : Upr F G h h1 := ⟨a.1, a.2.1, a.2.2.1, a.2.2.2.1, fun i _ => by rw [a.2.2.2.2.1], a.2.2.2.2.2⟩
theorem Upr.setL {i k : Nat} {v : Int64} (hi : G i) : Upr F G h (setL h i k v) := ⟨rfl, rfl, rfl, rfl, fun a q => funext fun b => by rw [hL_setL, if_neg (fun w => q (by rw [w.1]; exact hi))], fun _ _ _ => rfl⟩
theorem Upr.ii (a : Upr F G h h1) {i k : Nat} (q : ¬ F i k) : hI h1 i k = hI h i k := a.2.2.2.2.2 i k q
theorem Upr.rr (a : Upr F G h h1) (i k : Nat) : hR h1 i k = hR h i k := by rw [a.2.2.2.1]
theorem Upr.gg (a : Upr F G h h1) (i : Nat) : hG h1 i = hG h i := by unfold hG; rw [a.1, a.2.2.1]
theorem Upr.chg {S : Nat → Prop} (a : Upr F G h h1) (hf : ∀ i k, F i k → S i) (hg : ∀ i, G i → S i) : Chg S h h1 := ⟨by rw [a.1]; exact Nat.le_refl _, by rw [a.2.1]; exact Nat.le_refl _, fun i _ => ⟨by rw [a.2.2.1], fun q => ⟨funext fun k => a.2.2.2.2.2 i k (fun w => q (hf i k w)), a.2.2.2.2.1 i (fun w => q (hg i w)), by rw [a.2.2.2.1]⟩⟩⟩
theorem ModH.keepr (hM : ModH h m) (a : Upr F G h h1) : ModH h1 m :=
  ⟨by rw [a.gg]; exact hM.1, fun q hq => by rw [a.rr, a.gg]; exact hM.2.1 q hq, fun s hs => by rw [a.rr, a.gg]; exact hM.2.2.1 s hs, fun s hs => by rw [a.rr, a.gg]; exact hM.2.2.2 s hs⟩
theorem MB.keepr {σ : WS} (hB : MB h m σ) (a : Upr F G h h1) (hF : ∀ i k, fV m i k → ¬ F i k) : MB h1 m σ :=
  ⟨hB.1.of (fun i k q => a.ii (hF i k (by unfold fV; omega))), hB.2.1.of (fun i k q => a.ii (hF i k (by unfold fV; omega))), hB.2.2.of (fun i k q => a.ii (hF i k (by unfold fV; omega)))⟩
theorem mshf.ofr {s : Nat} {q : Shf} (hq : mshf h m s q) (e : ∀ i, i = m + 1 ∨ i = m + 2 ∨ i = m + 3 ∨ i = m + 14 → hI h1 i s = hI h i s) (eL : hL h1 (m + 5 + s) = hL h (m + 5 + s)) : mshf h1 m s q := by
  match q, hq with
  | none, q1 => exact (e (m + 1) (by omega)).trans q1
  | some (.inl p), ⟨q1, q2⟩ => exact ⟨(e (m + 1) (by omega)).trans q1, (e (m + 14) (by omega)).trans q2⟩
  | some (.inr (sort, n, v)), ⟨q1, q2, q3, q4, q5, q6⟩ => exact ⟨(e (m + 1) (by omega)).trans q1, (e (m + 2) (by omega)).trans q2, (e (m + 3) (by omega)).trans q3, q4, q5, fun k hk => by rw [eL]; exact q6 k hk⟩
def fH (m s : Nat) : Nat → Nat → Prop := fun i k => (i = m + 1 ∨ i = m + 2 ∨ i = m + 3 ∨ i = m + 14) ∧ k = s
def gH (m s : Nat) : Nat → Prop := fun i => i = m + 5 + s ∨ i = m + 13
theorem MS.shelf {s : Nat} {q : Shf} (hS : MS h m ko to T) (hs : s < 8) (a : Upr (fH m s) (gH m s) h h1) (hq : mshf h1 m s q) (hp : ∀ p, q = some (.inl p) → p < T.1.1.length) : MS h1 m ko to (updS T s q) := by
  obtain ⟨s1, s2, s3, s4, s5, s6, s7, s8⟩ := hS
  refine ⟨okT_upd s1 hp, s2.keepr a, s3.keepr a (fun i k z w => by unfold fV at z; unfold fH at w; omega), s4.of (fun i k z => a.ii (by unfold fH; omega)), fun i hi => ?_, fun t ht => ?_, ?_, ?_⟩
  · rw [a.ii (by unfold fH; omega)]
    exact s5 i hi
  · show mshf h1 m t (if t = s then q else T.2.2.1 t)
    by_cases e : t = s
    · subst e
      rw [if_pos rfl]
      exact hq
    · rw [if_neg e]
      exact (s6 t ht).ofr (fun i z => a.ii (by unfold fH; omega)) (a.2.2.2.2.1 _ (by unfold gH; omega))
  · show MK h1 m ko T.2.1
    match ko, s7 with
    | none, ⟨q1, q2⟩ => exact ⟨by rw [a.rr]; exact q1, q2⟩
    | some k, ⟨q1, q2, q3, q4, q5⟩ => exact ⟨by rw [a.rr]; exact q1, q2, q3.keepr a, q4.keepr a (fun i j z w => by unfold fV at z; unfold fH at w; omega), q5⟩
  · match to, s8 with
    | none, q1 => exact (a.rr m 23).trans q1
    | some t, ⟨q1, q2, q3⟩ => exact ⟨by rw [a.rr]; exact q1, q2.keepr a, q3⟩
end UR
/-- a statement of the reference that makes no cell, longs too -/
def RfL (M : JM) (d : Nat) (as : List Value) (h : PH) (m : Nat) (ko to : Option Nat) (v : Int32) (T' : TS) : Prop := ∃ h1, JMt M (some .int) d as h (some (.int v)) h1 ∧ Upr (fM m) (fun i => m ≤ i ∧ i < m + 285) h h1 ∧ MS h1 m ko to T'
section SV
variable {d : Nat} {h : PH} {m : Nat} {ko to : Option Nat} {T : TS}
theorem RfU.l {M : JM} {D : Nat} {as : List Value} {v : Int32} {T' : TS} (hq : RfU M D as h m ko to v T') : RfL M D as h m ko to v T' := by
  obtain ⟨h1, a, b, c⟩ := hq
  exact ⟨h1, a, b.upr, c⟩
theorem rlS {M : JM} {D : Nat} {as : List Value} {v : Int32} {s : Nat} {q : Shf} {h1 : PH} (hS : MS h m ko to T) (hs : s < 8) (hj : JMt M (some .int) D as h (some (.int v)) h1) (a : Upr (fH m s) (gH m s) h h1) (hq : mshf h1 m s q) (hp : ∀ p, q = some (.inl p) → p < T.1.1.length) : RfL M D as h m ko to v (updS T s q) :=
  ⟨h1, hj, a.mono (fun i k z => by unfold fH at z; unfold fM; omega) (fun i z => by unfold gH at z; omega), hS.shelf hs a hq hp⟩
def nrK (T : TS) (s : Int32) : Option Nat := if inB s 0 7 then (match shfA T s with
  | none => some 2
  | some (.inl _) => some 1
  | some (.inr _) => none) else some 0
theorem u_noRow {s : Int32} (hS : MS h m ko to T) : ∃ (v : Int32) (h1 : PH), JMt mX8_noRow (some .int) (d + 1) [.ref m, .int s] h (some (.int v)) h1 ∧ hn h1 = hn h ∧ (match nrK T s with
    | none => v = 0 ∧ h1 = h
    | some k => k < 5 ∧ v = rfI k ∧ Upf (fun i _ => i = m + 16) h h1 ∧ MS h1 m ko to (rfT T k)) := by
  have hS0 := hS
  obtain ⟨hT, hM, hB, hTp, hRf, hSh, hK, hTr⟩ := hS
  obtain ⟨o1, o2, o3, o4, o5, o6⟩ := hT.1
  have n8 := hB.n8
  have l8 := hB.l8
  unfold nrK
  cases hb : inB s 0 7 with
  | false =>
    obtain ⟨h1, a, b, c⟩ := u_refuse (k := 0) (d := d) (by omega) hS0
    exact ⟨_, h1, jm mi_X8_noRow (Nat.le_of_ble_eq_true rfl) ⟨.int, rfl, rfl⟩ rfl (k_X8_noRow_0 t_in_0_7 (Or.inl rfl) (fun z => absurd z (by rw [hb]; decide)) (fun _ => k_X8_noRow_12 a (Or.inl b.1) hM.g)), b.1, by omega, rfl, b, c⟩
  | true =>
    rw [if_pos rfl]
    obtain ⟨k, hk, rfl⟩ := inB_nI (n := 7) (by omega) hb
    rw [shfA_in (by omega)]
    have hq := hSh k (by omega)
    have ci : (nI k).toNatClampNeg = k := nI_clamp (by omega)
    generalize T.2.2.1 k = q at hq
    match q, hq with
    | none, q1 =>
      have q1 : hI h (m + 1) k = 0 := q1
      obtain ⟨h1, a, b, c⟩ := u_refuse (k := 2) (d := d) (by omega) hS0
      exact ⟨_, h1, jm mi_X8_noRow (Nat.le_of_ble_eq_true rfl) ⟨.int, rfl, rfl⟩ rfl (k_X8_noRow_0 t_in_0_7 (Or.inl rfl) (fun _ => k_X8_noRow_20 hM.g hM.r0 hM.g0 (vp_in_nI (by omega) (by omega)) (fun _ => k_X8_noRow_38 hM.g hM.r0 hM.g0 (vp_in_nI (by omega) (by omega)) (fun z => absurd (by rw [ci]; exact q1) z) (fun _ => k_X8_noRow_47 a (Or.inl b.1) hM.g k_X8_noRow_58)) (fun z => absurd z (by rw [ci, q1]; decide))) (fun z => absurd z (by rw [hb]; decide))), b.1, by omega, rfl, b, c⟩
    | some (.inl p), ⟨q1, _⟩ =>
      obtain ⟨h1, a, b, c⟩ := u_refuse (k := 1) (d := d) (by omega) hS0
      exact ⟨_, h1, jm mi_X8_noRow (Nat.le_of_ble_eq_true rfl) ⟨.int, rfl, rfl⟩ rfl (k_X8_noRow_0 t_in_0_7 (Or.inl rfl) (fun _ => k_X8_noRow_20 hM.g hM.r0 hM.g0 (vp_in_nI (by omega) (by omega)) (fun z => absurd (by rw [ci, q1]) z) (fun _ => k_X8_noRow_30 a (Or.inl b.1) hM.g)) (fun z => absurd z (by rw [hb]; decide))), b.1, by omega, rfl, b, c⟩
    | some (.inr (sort, n, v)), ⟨q1, _⟩ =>
      exact ⟨0, h, jm mi_X8_noRow (Nat.le_of_ble_eq_true rfl) ⟨.int, rfl, rfl⟩ rfl (k_X8_noRow_0 t_in_0_7 (Or.inl rfl) (fun _ => k_X8_noRow_20 hM.g hM.r0 hM.g0 (vp_in_nI (by omega) (by omega)) (fun _ => k_X8_noRow_38 hM.g hM.r0 hM.g0 (vp_in_nI (by omega) (by omega)) (fun _ => k_X8_noRow_57 k_X8_noRow_58) (fun z => absurd z (by rw [ci, q1]; decide))) (fun z => absurd z (by rw [ci, q1]; decide))) (fun z => absurd z (by rw [hb]; decide))), rfl, rfl, rfl⟩
theorem u_fit {sort : Nat} {z : Int64} (hs : sort ≤ 4) : JMt mX8_fit (some .long) d [.int (nI sort), .long z] h (some (.long (cutL sort z))) h := by
  have ww : (nI sort).toInt = sort := nI_toInt (by omega)
  rcases le4 hs with rfl | rfl | rfl | rfl | rfl
  · exact jm mi_X8_fit (Nat.le_of_ble_eq_true rfl) rfl rfl (k_X8_fit_0 (fun z => absurd z (by omega)) (fun _ => k_X8_fit_32) (fun z => absurd z (by decide)) (fun z => absurd z (by decide)) (fun z => absurd z (by decide)))
  · exact jm mi_X8_fit (Nat.le_of_ble_eq_true rfl) rfl rfl (k_X8_fit_0 (fun z => absurd z (by omega)) (fun z => absurd z (by decide)) (fun _ => k_X8_fit_37) (fun z => absurd z (by decide)) (fun z => absurd z (by decide)))
  · exact jm mi_X8_fit (Nat.le_of_ble_eq_true rfl) rfl rfl (k_X8_fit_0 (fun z => absurd z (by omega)) (fun z => absurd z (by decide)) (fun z => absurd z (by decide)) (fun _ => k_X8_fit_42) (fun z => absurd z (by decide)))
  · exact jm mi_X8_fit (Nat.le_of_ble_eq_true rfl) rfl rfl (k_X8_fit_0 (fun z => absurd z (by omega)) (fun z => absurd z (by decide)) (fun z => absurd z (by decide)) (fun z => absurd z (by decide)) (fun _ => k_X8_fit_46))
  · refine jm mi_X8_fit (Nat.le_of_ble_eq_true rfl) rfl rfl (k_X8_fit_0 (fun _ => k_X8_fit_48 (fun q => ?_) (fun q => ?_)) (fun z => absurd z (by decide)) (fun z => absurd z (by decide)) (fun z => absurd z (by decide)) (fun z => absurd z (by decide)))
    · rw [show cutL 4 z = 0 by unfold cutL; rw [if_neg (by decide), if_neg (by decide), if_neg (by decide), if_neg (by decide), if_pos q]]
      exact k_X8_fit_58 k_X8_fit_59
    · rw [show cutL 4 z = 1 by unfold cutL; rw [if_neg (by decide), if_neg (by decide), if_neg (by decide), if_neg (by decide), if_neg q]]
      exact k_X8_fit_54 k_X8_fit_59
theorem m_set {s i : Int32} {z : Int64} (hS : MS h m ko to T) : RfL mX8_set (d + 10) [.ref m, .int s, .int i, .long z] h m ko to (s_set T s i z).1 (s_set T s i z).2 := by
  have hS0 := hS
  obtain ⟨hT, hM, hB, hTp, hRf, hSh, hK, hTr⟩ := hS
  obtain ⟨o1, o2, o3, o4, o5, o6⟩ := hT.1
  have n8 := hB.n8
  have l8 := hB.l8
  obtain ⟨v, h1, a1, a2, a3⟩ := u_noRow (d := d + 8) (s := s) hS0
  unfold s_set
  have bad : ∀ k, k < 5 → nrK T s = some k → RfL mX8_set (d + 10) [.ref m, .int s, .int i, .long z] h m ko to (rfI k) (rfT T k) := fun k hk e => by
    rw [e] at a3
    obtain ⟨-, rfl, b, c⟩ := a3
    have hr : ∀ k, k < 5 → ¬ rfI k = 0 := by decide
    exact ⟨h1, jm mi_X8_set (Nat.le_of_ble_eq_true rfl) ⟨.int, rfl, rfl⟩ rfl (k_X8_set_0 a1 (Or.inl a2) hM.g (fun y => absurd y (hr k hk)) (fun _ => k_X8_set_12)), b.upr.mono (fun i k y => by unfold fM; omega) (fun i y => y), c⟩
  unfold nrK at bad a3
  cases hb : inB s 0 7 with
  | false =>
    rw [hb, if_neg (by decide)] at bad
    rw [if_neg (by decide)]
    exact bad 0 (by omega) rfl
  | true =>
    rw [hb, if_pos rfl] at bad a3
    rw [if_pos rfl]
    obtain ⟨k, hk, rfl⟩ := inB_nI (n := 7) (by omega) hb
    rw [shfA_in (by omega)] at bad a3 ⊢
    rw [nn_I (k := k) (by omega)]
    have hq := hSh k (by omega)
    have ci : (nI k).toNatClampNeg = k := nI_clamp (by omega)
    generalize T.2.2.1 k = q at hq bad a3
    match q, hq, bad, a3 with
    | none, q1, bad, a3 => exact bad 2 (by omega) rfl
    | some (.inl p), q1, bad, a3 => exact bad 1 (by omega) rfl
    | some (.inr (sort, n, v')), ⟨q1, q2, q3, q4, q5, q6⟩, _, a3 =>
      obtain ⟨rfl, rfl⟩ := a3
      have hi : JMt mX8_in (some .boolean) (d + 9) [.long i.toInt64, .long (0 : Int64), .long ((hI h1 (m + 3) (nI k).toNatClampNeg - (1 : Int32)).toInt64)] h1 (some (.int (bI (inB i 0 ((n : Int) - 1))))) h1 := by
        rw [ci, q3]; exact t_inI rfl (nI_pre1 (by omega))
      dsimp only
      cases hc : inB i 0 ((n : Int) - 1) with
      | false =>
        have hc' := of_decide_eq_false hc
        rw [if_neg (by omega)]
        exact (muR (k := 0) (by omega) hS0 (fun h2 r e => jm mi_X8_set (Nat.le_of_ble_eq_true rfl) ⟨.int, rfl, rfl⟩ rfl (k_X8_set_0 a1 (Or.inl a2) hM.g (fun _ => k_X8_set_15 hM.g hM.r2 hM.g2 (vp_in_nI (by omega) (by omega)) hi (Or.inl rfl) (fun z => absurd z (by rw [hc]; decide)) (fun _ => k_X8_set_33 r (Or.inl e) hM.g)) (fun y => absurd rfl y)))).l
      | true =>
        have hc' := of_decide_eq_true hc
        rw [if_pos (by omega)]
        obtain ⟨j, hj, rfl⟩ := inr (x := i) (n := n) (by rw [lt0I]; omega) (by omega)
        rw [nn_I (by omega)]
        have kk := k_X8_set_41 (d := d + 9) (a1 := nI k) (a2 := nI j) (a3 := z) (a5 := 0) hM.g hM.r3 hM.g3 (Or.inr (Or.inl rfl)) (vp_in_nI (by omega) (by omega)) (by rw [ci]; exact hM.rw (by omega)) hM.r1 hM.g1 (vp_in_nI (by omega) (by omega)) (by rw [ci, q2]; exact u_fit q5) (Or.inl rfl) (hM.gw (by omega)) (vp_in_nI (by omega) (by omega))
        rw [nI_clamp (n := j) (by omega)] at kk
        refine rlS hS0 (by omega) (jm mi_X8_set (Nat.le_of_ble_eq_true rfl) ⟨.int, rfl, rfl⟩ rfl (k_X8_set_0 a1 (Or.inl a2) hM.g (fun _ => k_X8_set_15 hM.g hM.r2 hM.g2 (vp_in_nI (by omega) (by omega)) hi (Or.inl rfl) (fun _ => kk) (fun z => absurd z (by rw [hc]; decide))) (fun y => absurd rfl y))) (Upr.setL (Or.inl rfl)) ⟨q1, q2, q3, q4, q5, fun y hy => ?_⟩ (fun p y => by cases y)
        show _ = if y = j then cutL sort z else v' y
        rw [hL_setL]
        by_cases e : y = j
        · rw [if_pos ⟨rfl, e⟩, if_pos e]
        · rw [if_neg (fun w => e w.2), if_neg e]
          exact q6 y hy
theorem v_zero {x1 x2 x3 : Int32} {s : Nat} (hs : s < 8) (ex : x1 = nI s) : ∀ n j (h : PH), 40 - j = n → j ≤ 40 → ModH h m → (∀ i, i < j → hL h (m + 5 + s) i = 0) → ∃ h1, J mX8_row (d + 1) 68 [some (.ref m), some (.int x1), some (.int x2), some (.int x3), some (.int (nI j))] [] h (some (.int 1)) h1 ∧ Upr (fun _ _ => False) (fun i => i = m + 5 + s) h h1 ∧ ∀ i, i < 40 → hL h1 (m + 5 + s) i = 0 := by
  subst ex
  intro n
  induction n with
  | zero =>
    intro j h hj hl hM hi
    have : j = 40 := by omega
    subst this
    exact ⟨h, k_X8_row_68 (fun _ => k_X8_row_91) (fun z => absurd (nI_le (a := 40) (b := 40) (by omega) (by omega)) z), Upr.rf, hi⟩
  | succ n ih =>
    intro j h hj hl hM hi
    have U : Upr (fun _ _ => False) (fun i => i = m + 5 + s) h (setL h (m + 5 + s) j 0) := Upr.setL rfl
    obtain ⟨h1, b1, b2, b3⟩ := ih (j + 1) (setL h (m + 5 + s) j 0) (by omega) (by omega) (hM.keepr U) (fun i hij => by
      rw [hL_setL]
      by_cases e : i = j
      · rw [if_pos ⟨rfl, e⟩]
      · rw [if_neg (fun w => e w.2)]; exact hi i (by omega))
    refine ⟨h1, k_X8_row_68 (fun z => absurd z (nI_ge (b := 40) (by omega) (by omega))) (fun _ => k_X8_row_75 hM.g hM.r3 hM.g3 (by decide) (vp_in_nI (by omega) (by omega)) (by rw [nI_clamp (by omega)]; exact hM.rw hs) (hM.gw hs) (vp_in_nI (by omega) (by omega)) ?_), U.tr b2, b3⟩
    rw [nI_clamp (by omega), nI_1]
    exact b1
theorem m_row {s sort n : Int32} (hS : MS h m ko to T) : RfL mX8_row (d + 10) [.ref m, .int s, .int sort, .int n] h m ko to (s_row T s sort n).1 (s_row T s sort n).2 := by
  have hS0 := hS
  obtain ⟨hT, hM, hB, hTp, hRf, hSh, hK, hTr⟩ := hS
  obtain ⟨o1, o2, o3, o4, o5, o6⟩ := hT.1
  have n8 := hB.n8
  have l8 := hB.l8
  unfold s_row
  cases hb : inB s 0 7 with
  | false =>
    rw [Bool.false_and, Bool.false_and, if_neg (by decide)]
    exact (muR (k := 0) (by omega) hS0 (fun h1 r e => jm mi_X8_row (Nat.le_of_ble_eq_true rfl) ⟨.int, rfl, rfl⟩ rfl (k_X8_row_0 t_in_0_7 (Or.inl rfl) (fun _ => k_X8_row_36 r (Or.inl e) hM.g) (fun z => absurd z (by rw [hb]; decide))))).l
  | true =>
    rw [Bool.true_and]
    cases hb2 : inB sort 0 4 with
    | false =>
      rw [Bool.false_and, if_neg (by decide)]
      exact (muR (k := 0) (by omega) hS0 (fun h1 r e => jm mi_X8_row (Nat.le_of_ble_eq_true rfl) ⟨.int, rfl, rfl⟩ rfl (k_X8_row_0 t_in_0_7 (Or.inl rfl) (fun z => absurd z (by rw [hb]; decide)) (fun _ => k_X8_row_12 t_in_0_4 (Or.inl rfl) (fun _ => k_X8_row_36 r (Or.inl e) hM.g) (fun z => absurd z (by rw [hb2]; decide)))))).l
    | true =>
      rw [Bool.true_and]
      cases hb3 : inB n 0 40 with
      | false =>
        rw [if_neg (by decide)]
        exact (muR (k := 0) (by omega) hS0 (fun h1 r e => jm mi_X8_row (Nat.le_of_ble_eq_true rfl) ⟨.int, rfl, rfl⟩ rfl (k_X8_row_0 t_in_0_7 (Or.inl rfl) (fun z => absurd z (by rw [hb]; decide)) (fun _ => k_X8_row_12 t_in_0_4 (Or.inl rfl) (fun z => absurd z (by rw [hb2]; decide)) (fun _ => k_X8_row_24 t_in_0_40 (Or.inl rfl) (fun z => absurd z (by rw [hb3]; decide)) (fun _ => k_X8_row_36 r (Or.inl e) hM.g)))))).l
      | true =>
        rw [if_pos rfl]
        obtain ⟨k, hk, rfl⟩ := inB_nI (n := 7) (by omega) hb
        obtain ⟨t, ht, rfl⟩ := inB_nI (n := 4) (by omega) hb2
        obtain ⟨n, hn40, rfl⟩ := inB_nI (n := 40) (by omega) hb3
        rw [nn_I (by omega), nn_I (by omega), nn_I (by omega)]
        have ci : (nI k).toNatClampNeg = k := nI_clamp (by omega)
        have U : Upr (fH m k) (gH m k) h (setI (setI (setI h (m + 1) k 1) (m + 2) k (nI t)) (m + 3) k (nI n)) := Upf.upr (((Upf.set ⟨Or.inl rfl, rfl⟩).st ⟨Or.inr (Or.inl rfl), rfl⟩).st ⟨Or.inr (Or.inr (Or.inl rfl)), rfl⟩)
        obtain ⟨h1, b1, b2, b3⟩ := v_zero (d := d + 9) (m := m) (x1 := nI k) (x2 := nI t) (x3 := nI n) (s := k) (by omega) rfl _ 0 (setI (setI (setI h (m + 1) k 1) (m + 2) k (nI t)) (m + 3) k (nI n)) rfl (by omega) (hM.keepr U) (fun i z => absurd z (Nat.not_lt_zero i))
        have b2' : Upr (fH m k) (gH m k) (setI (setI (setI h (m + 1) k 1) (m + 2) k (nI t)) (m + 3) k (nI n)) h1 := b2.mono (fun _ _ z => z.elim) (fun i z => Or.inl z)
        refine rlS hS0 (by omega) (jm mi_X8_row (Nat.le_of_ble_eq_true rfl) ⟨.int, rfl, rfl⟩ rfl (k_X8_row_0 t_in_0_7 (Or.inl rfl) (fun z => absurd z (by rw [hb]; decide)) (fun _ => k_X8_row_12 t_in_0_4 (Or.inl rfl) (fun z => absurd z (by rw [hb2]; decide)) (fun _ => k_X8_row_24 t_in_0_40 (Or.inl rfl) (fun _ => k_X8_row_44 hM.g hM.r0 hM.g0 (vp_in_nI (by omega) (by omega)) hM.r1 hM.g1 (vp_in_nI (by omega) (by omega)) hM.r2 hM.g2 (vp_in_nI (by omega) (by omega)) (by rw [ci]; exact b1)) (fun z => absurd z (by rw [hb3]; decide)))))) (U.tr b2') ⟨?_, ?_, ?_, hn40, ht, fun y hy => b3 y (by omega)⟩ (fun p y => by cases y)
        · rw [b2.ii (fun z => z), hI_setI, if_neg (by omega), hI_setI, if_neg (by omega), hI_setI, if_pos ⟨rfl, rfl⟩]
        · rw [b2.ii (fun z => z), hI_setI, if_neg (by omega), hI_setI, if_pos ⟨rfl, rfl⟩]
        · rw [b2.ii (fun z => z), hI_setI, if_pos ⟨rfl, rfl⟩]
end SV
