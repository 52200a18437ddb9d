/-! the reference's whole state; its questions that only read -/
def MT (h : PH) (m : Nat) (B : List Nat) : Prop := hI h m 7 = nI B.length ∧ B.length ≤ 250 ∧ (∀ b ∈ B, b < 256) ∧ ∀ k, k < B.length → hI h (m + 15) k = nI (B.getD k 0)
def mshf (h : PH) (m s : Nat) (q : Shf) : Prop := match q with
  | none => hI h (m + 1) s = 0
  | some (.inl p) => hI h (m + 1) s = 2 ∧ hI h (m + 14) s = nI p
  | some (.inr (sort, n, v)) => hI h (m + 1) s = 1 ∧ hI h (m + 2) s = nI sort ∧ hI h (m + 3) s = nI n ∧ n ≤ 40 ∧ sort ≤ 4 ∧ ∀ k, k < n → hL h (m + 5 + s) k = v k
def MK (h : PH) (m : Nat) (ko : Option Nat) (q : Bool × WS) : Prop := match ko with
  | none => hR h m 22 = none ∧ q.1 = false
  | some k => hR h m 22 = some k ∧ q.1 = true ∧ ModH h k ∧ MB h k q.2 ∧ m + 285 ≤ k
def MTr (h : PH) (m : Nat) (ko to : Option Nat) : Prop := match to with
  | none => hR h m 23 = none
  | some t => hR h m 23 = some t ∧ ModH h t ∧ m + 285 ≤ t ∧ ∀ k, ko = some k → k + 285 ≤ t ∨ t + 285 ≤ k
def MS (h : PH) (m : Nat) (ko to : Option Nat) (T : TS) : Prop := okT T ∧ ModH h m ∧ MB h m T.1 ∧ MT h m T.2.2.2.1 ∧ (∀ i, i < 5 → hI h (m + 16) (i + 2) = T.2.2.2.2 i) ∧ (∀ s, s < 8 → mshf h m s (T.2.2.1 s)) ∧ MK h m ko T.2.1 ∧ MTr h m ko to
def fVS (m : Nat) : Nat → Nat → Prop := fun i k => fV m i k ∨ fS m i k
section MSS
variable {F : Nat → Nat → Prop} {h h1 : PH} {m : Nat} {ko to : Option Nat} {T : TS}
theorem MT.of {B : List Nat} (hB : MT h m B) (e : ∀ i k, (i = m ∧ k = 7) ∨ i = m + 15 → hI h1 i k = hI h i k) : MT h1 m B := by
  obtain ⟨c1, c2, c3, c4⟩ := hB
  refine ⟨by rw [e m 7 (by omega)]; exact c1, c2, c3, fun k hk => ?_⟩
  rw [e (m + 15) k (by omega)]
  exact c4 k hk
theorem mshf.of {s : Nat} {q : Shf} (hq : mshf h m s q) (e : ∀ i k, i = m + 1 ∨ i = m + 2 ∨ i = m + 3 ∨ i = m + 14 → hI h1 i k = hI h i k) (eL : hL h1 = hL h) : mshf h1 m s q := by
  match q, hq with
  | none, q1 => exact (e (m + 1) s (by omega)).trans q1
  | some (.inl p), ⟨q1, q2⟩ => exact ⟨(e (m + 1) s (by omega)).trans q1, (e (m + 14) s (by omega)).trans q2⟩
  | some (.inr (sort, n, v)), ⟨q1, q2, q3, q4, q5, q6⟩ => exact ⟨(e (m + 1) s (by omega)).trans q1, (e (m + 2) s (by omega)).trans q2, (e (m + 3) s (by omega)).trans q3, q4, q5, fun k hk => by rw [eL]; exact q6 k hk⟩
theorem MK.of {q : Bool × WS} (hK : MK h m ko q) (a : Upf F h h1) (hF : ∀ i k, F i k → i < m + 285) : MK h1 m ko q := by
  match ko, hK with
  | none, ⟨q1, q2⟩ => exact ⟨by rw [a.rr]; exact q1, q2⟩
  | some k, ⟨q1, q2, q3, q4, q5⟩ => exact ⟨by rw [a.rr]; exact q1, q2, q3.keep a, q4.keep a (fun i j q w => by have := hF i j w; unfold fV at q; omega), q5⟩
theorem MTr.of (hK : MTr h m ko to) (a : Upf F h h1) : MTr h1 m ko to := by
  match to, hK with
  | none, q1 => exact (a.rr m 23).trans q1
  | some t, ⟨q1, q2, q3⟩ => exact ⟨by rw [a.rr]; exact q1, q2.keep a, q3⟩
/-- the world is another one (or the same), scratch is written -/
theorem MS.upd {σ : WS} (hS : MS h m ko to T) (a : Upf (fVS m) h h1) (hB : MB h1 m σ) (hT : okT (updW T σ)) : MS h1 m ko to (updW T σ) := by
  obtain ⟨-, s2, s3, s4, s5, s6, s7, s8⟩ := hS
  refine ⟨hT, s2.keep a, hB, s4.of (fun i k q => a.ii (by unfold fVS fV fS; omega)), fun i hi => ?_, fun s hs => (s6 s hs).of (fun i k q => a.ii (by unfold fVS fV fS; omega)) a.2.2.2.2.1, s7.of a (fun i k q => by unfold fVS fV fS at q; omega), s8.of a⟩
  rw [a.ii (by unfold fVS fV fS; omega)]
  exact s5 i hi
theorem MS.same (hS : MS h m ko to T) (a : Upf (fVS m) h h1) (hB : MB h1 m T.1) : MS h1 m ko to T := hS.upd a hB hS.1
theorem MS.ref {r' : Nat → Int32} (hS : MS h m ko to T) (a : Upf (fun i _ => i = m + 16) h h1) (hr : ∀ i, i < 5 → hI h1 (m + 16) (i + 2) = r' i) : MS h1 m ko to (T.1, T.2.1, T.2.2.1, T.2.2.2.1, r') := by
  obtain ⟨s1, s2, s3, s4, s5, s6, s7, s8⟩ := hS
  exact ⟨s1, s2.keep a, s3.keep a (fun i k q w => by unfold fV at q; omega), s4.of (fun i k q => a.ii (by omega)), hr, fun s hs => (s6 s hs).of (fun i k q => a.ii (by omega)) a.2.2.2.2.1, s7.of a (fun i k q => by omega), s8.of a⟩
theorem MS.tap {B : List Nat} (hS : MS h m ko to T) (a : Upf (fun i k => (i = m ∧ k = 7) ∨ i = m + 15) h h1) (hB : MT h1 m B) : MS h1 m ko to (updB T B) := by
  obtain ⟨s1, s2, s3, s4, s5, s6, s7, s8⟩ := hS
  refine ⟨s1, s2.keep a, s3.keep a (fun i k q w => by unfold fV at q; omega), hB, fun i hi => ?_, fun s hs => (s6 s hs).of (fun i k q => a.ii (by omega)) a.2.2.2.2.1, s7.of a (fun i k q => by omega), s8.of a⟩
  rw [a.ii (by omega)]
  exact s5 i hi
end MSS
section MQS
variable {d : Nat} {h : PH} {m : Nat} {ko to : Option Nat} {T : TS}
theorem rf2 : ∀ k, k < 5 → -(rfI k) - (1000 : Int32) = nI (k + 2) := by decide
theorem u_refuse {k : Nat} (hk : k < 5) (hS : MS h m ko to T) : ∃ h1, JMt mX8_refuse (some .int) d [.ref m, .int (rfI k)] h (some (.int (rfI k))) h1 ∧ Upf (fun i _ => i = m + 16) h h1 ∧ MS h1 m ko to (rfT T k) := by
  have hM := hS.2.1
  have e := rf2 k hk
  have a : Upf (fun i _ => i = m + 16) h (setI h (m + 16) (nI (k + 2)).toNatClampNeg (hI h (m + 16) (nI (k + 2)).toNatClampNeg + 1)) := Upf.set rfl
  refine ⟨_, jm mi_X8_refuse (Nat.le_of_ble_eq_true rfl) ⟨.int, rfl, rfl⟩ rfl (by
    have := k_X8_refuse_0 (d := d) (a1 := rfI k) hM.g hM.r8 hM.g8 (by rw [e]; exact vp_in_nI (by omega) (by omega)) (by rw [e]; exact vp_in_nI (by omega) (by omega))
    rw [e] at this
    exact this), a, hS.ref a (fun i hi => ?_)⟩
  rw [hI_setI, nI_clamp (by omega)]
  show _ = if i = k then T.2.2.2.2 k + 1 else T.2.2.2.2 i
  by_cases z : i = k
  · subst z
    rw [if_pos ⟨rfl, rfl⟩, if_pos rfl, hS.2.2.2.2.1 i hi]
  · rw [if_neg (fun w => z (by omega)), if_neg z]
    exact hS.2.2.2.2.1 i hi
/-- a question of the reference -/
def RfQ (M : JM) (d : Nat) (as : List Value) (h : PH) (m : Nat) (ko to : Option Nat) (T : TS) (q : QR) : Prop := ∃ h1, JMt M (some .int) d as h (some (.int (QA q))) h1 ∧ Upf (fM m) h h1 ∧ MS h1 m ko to (QT T q)
/-- a statement of the reference that makes no cell -/
def RfU (M : JM) (d : Nat) (as : List Value) (h : PH) (m : Nat) (ko to : Option Nat) (v : Int32) (T' : TS) : Prop := ∃ h1, JMt M (some .int) d as h (some (.int v)) h1 ∧ Upf (fM m) h h1 ∧ MS h1 m ko to T'
theorem fVSM {i k : Nat} (q : fVS m i k) : fM m i k := q.elim fVM fSM
theorem mq0 {M : JM} {D : Nat} {as : List Value} {v : Int32} (hS : MS h m ko to T) (hj : JMt M (some .int) D as h (some (.int v)) h) : RfQ M D as h m ko to T (.inr v) := ⟨h, hj, Upf.rf, hS⟩
theorem mqV {M : JM} {D : Nat} {as : List Value} {v : Int32} (hS : MS h m ko to T) (hj : ∃ h1, JMt M (some .int) D as h (some (.int v)) h1 ∧ Upf (fVS m) h h1 ∧ MB h1 m T.1) : RfQ M D as h m ko to T (.inr v) := by
  obtain ⟨h1, a, b, c⟩ := hj
  exact ⟨h1, a, b.mono (fun i k => fVSM), hS.same b c⟩
theorem mqR {M : JM} {as : List Value} {k : Nat} (hk : k < 5) (hS : MS h m ko to T) (hj : ∀ h1, JMt mX8_refuse (some .int) (d + 9) [.ref m, .int (rfI k)] h (some (.int (rfI k))) h1 → hn h1 = hn h → JMt M (some .int) (d + 10) as h (some (.int (rfI k))) h1) : RfQ M (d + 10) as h m ko to T (.inl k) := by
  obtain ⟨h1, a, b, c⟩ := u_refuse (d := d + 9) hk hS
  exact ⟨h1, hj h1 a b.1, b.mono (fun i k q => by unfold fM; omega), c⟩
theorem muR {M : JM} {as : List Value} {k : Nat} (hk : k < 5) (hS : MS h m ko to T) (hj : ∀ h1, JMt mX8_refuse (some .int) (d + 9) [.ref m, .int (rfI k)] h (some (.int (rfI k))) h1 → hn h1 = hn h → JMt M (some .int) (d + 10) as h (some (.int (rfI k))) h1) : RfU M (d + 10) as h m ko to (rfI k) (rfT T k) := mqR hk hS hj
theorem muW {M : JM} {D : Nat} {as : List Value} {v : Int32} {σ : WS} (hS : MS h m ko to T) (ho : okW σ) (hl : T.1.1.length ≤ σ.1.length) (hj : ∃ h1, JMt M (some .int) D as h (some (.int v)) h1 ∧ Upf (fVS m) h h1 ∧ MB h1 m σ) : RfU M D as h m ko to v (updW T σ) := by
  obtain ⟨h1, a, b, c⟩ := hj
  exact ⟨h1, a, b.mono (fun i k => fVSM), hS.upd b c (okT_w hS.1 ho hl)⟩
theorem m_at {a : Int32} (hS : MS h m ko to T) : RfQ mX8_at (d + 10) [.ref m, .int a] h m ko to T (q_at T.1 a) := by
  have hS0 := hS
  obtain ⟨hT, hM, hB, hTp, hRf, hSh, hK, hTr⟩ := hS
  obtain ⟨o1, o2, o3, o4, o5, o6⟩ := hT.1
  have n8 := hB.n8
  have l8 := hB.l8
  unfold q_at
  cases hb : inB a 0 7 with
  | false =>
    rw [if_neg (by decide)]
    exact mqR (k := 0) (by omega) hS0 (fun h1 r e => jm mi_X8_at (Nat.le_of_ble_eq_true rfl) ⟨.int, rfl, rfl⟩ rfl (k_X8_at_0 t_in_0_7 (Or.inl rfl) (fun z => absurd z (by rw [hb]; decide)) (fun _ => k_X8_at_12 r (Or.inl e) hM.g)))
  | true =>
    rw [if_pos rfl]
    obtain ⟨k, hk, rfl⟩ := inB_nI (n := 7) (by omega) hb
    refine mq0 hS0 (jm mi_X8_at (Nat.le_of_ble_eq_true rfl) ⟨.int, rfl, rfl⟩ rfl (k_X8_at_0 t_in_0_7 (Or.inl rfl) (fun _ => k_X8_at_20 hM.g (fun q => ?_) (fun q => ?_)) (fun z => absurd z (by rw [hb]; decide))))
    · rw [hB.sz, nI_leI (by omega) (by omega)] at q
      refine k_X8_at_37 (ji ?_ k_X8_at_38)
      unfold onI
      rw [nI_toInt (by omega), if_neg (by omega)]
    · rw [hB.sz, nI_leI (by omega) (by omega)] at q
      exact k_X8_at_28 hM.g hM.r19 hM.g19 (vp_in_nI (by omega) (by omega)) (ji (by rw [nI_clamp (by omega), hB.sk (by omega), onI_nI (by omega) l8]) k_X8_at_38)
theorem m_stands (hS : MS h m ko to T) : RfQ mX8_stands (d + 10) [.ref m] h m ko to T (q_stands T.1) := by
  have hS0 := hS
  obtain ⟨hT, hM, hB, hTp, hRf, hSh, hK, hTr⟩ := hS
  obtain ⟨o1, o2, o3, o4, o5, o6⟩ := hT.1
  have n8 := hB.n8
  have l8 := hB.l8
  refine mq0 hS0 (jm mi_X8_stands (Nat.le_of_ble_eq_true rfl) ⟨.int, rfl, rfl⟩ rfl (k_X8_stands_0 (u_isStanding hM hB o1) (Or.inl rfl) hM.g (fun z => ?_) (fun z => ?_)))
  · rw [bI_0.mp z]
    exact k_X8_stands_11 k_X8_stands_12
  · rw [bI_n0.mp z]
    exact k_X8_stands_7 k_X8_stands_12
theorem m_weak (hS : MS h m ko to T) : RfQ mX8_weak (d + 10) [.ref m] h m ko to T (q_weak T.1) := by
  have hS0 := hS
  obtain ⟨hT, hM, hB, hTp, hRf, hSh, hK, hTr⟩ := hS
  obtain ⟨o1, o2, o3, o4, o5, o6⟩ := hT.1
  have n8 := hB.n8
  have l8 := hB.l8
  unfold q_weak
  have hw := u_weakAt (d := d + 5) hM hB o1
  cases hk : weakF T.1.1 T.1.2.2.1 T.1.2.1 with
  | none =>
    rw [hk] at hw
    exact mq0 hS0 (jm mi_X8_weak (Nat.le_of_ble_eq_true rfl) ⟨.int, rfl, rfl⟩ rfl (k_X8_weak_0 hw (Or.inl rfl) hM.g (fun z => absurd rfl z) (fun _ => k_X8_weak_10 k_X8_weak_20)))
  | some k =>
    rw [hk] at hw
    have hl := weakF_lt hk
    refine mq0 hS0 (jm mi_X8_weak (Nat.le_of_ble_eq_true rfl) ⟨.int, rfl, rfl⟩ rfl (k_X8_weak_0 hw (Or.inl rfl) hM.g (fun _ => k_X8_weak_14 hM.g hM.r19 hM.g19 (show vp_in (nI k) 8 from (vp_in_nI (by omega) (by omega))) (ji ?_ k_X8_weak_20)) (fun z => absurd z (nI_nneg1 (n := k) (by omega)))))
    show hI h (m + 22) (nI k).toNatClampNeg = _
    rw [nI_clamp (by omega), hB.sk hl]
theorem m_height (hS : MS h m ko to T) : RfQ mX8_height (d + 10) [.ref m] h m ko to T (q_height T.1) := by
  have hS0 := hS
  obtain ⟨hT, hM, hB, hTp, hRf, hSh, hK, hTr⟩ := hS
  obtain ⟨o1, o2, o3, o4, o5, o6⟩ := hT.1
  have n8 := hB.n8
  have l8 := hB.l8
  exact mq0 hS0 (jm mi_X8_height (Nat.le_of_ble_eq_true rfl) ⟨.int, rfl, rfl⟩ rfl (k_X8_height_0 (u_heightNow hM hB o1) (Or.inl rfl) hM.g))
theorem m_mass (hS : MS h m ko to T) : RfQ mX8_mass (d + 10) [.ref m] h m ko to T (q_mass T.1) := by
  have hS0 := hS
  obtain ⟨hT, hM, hB, hTp, hRf, hSh, hK, hTr⟩ := hS
  obtain ⟨o1, o2, o3, o4, o5, o6⟩ := hT.1
  have n8 := hB.n8
  have l8 := hB.l8
  exact mq0 hS0 (jm mi_X8_mass (Nat.le_of_ble_eq_true rfl) ⟨.int, rfl, rfl⟩ rfl (k_X8_mass_0 (u_loadAll hM hB o1) (Or.inl rfl) hM.g))
theorem pred_I {n : Nat} (h0 : 0 < n) (hn : n < 2 ^ 31) : nI n - (1 : Int32) = nI (n - 1) := by rw [show (1 : Int32) = nI 1 from rfl, pk_sub (by omega)]
theorem u_top (hM : ModH h m) {σ : WS} (hB : MB h m σ) : JMt mX8_top (some .int) d [.ref m] h (some (.int (headI σ.2.1))) h := by
  have l8 := hB.l8
  refine jm mi_X8_top (Nat.le_of_ble_eq_true rfl) ⟨.int, rfl, rfl⟩ rfl (k_X8_top_0 hM.g (fun z => ?_) (fun z => ?_))
  · rw [hB.sz] at z
    have h0 : σ.2.1.length ≠ 0 := fun e => z (by rw [e]; rfl)
    have e : hI h m 20 - (1 : Int32) = nI (σ.2.1.length - 1) := by rw [hB.sz, pred_I (by omega) (by omega)]
    refine k_X8_top_11 hM.g hM.r19 hM.g19 (by rw [e]; exact (vp_in_nI (by omega) (by omega))) (ji ?_ k_X8_top_22)
    rw [e, nI_clamp (by omega), hB.sk (by omega)]
    exact (if_neg h0).symm
  · rw [hB.sz] at z
    have h0 : σ.2.1.length = 0 := (nI_eq (b := 0) (by omega) (by omega)).mp z
    exact k_X8_top_7 (ji (if_pos h0).symm k_X8_top_22)
theorem m_top (hS : MS h m ko to T) : RfQ mX8_top (d + 10) [.ref m] h m ko to T (q_top T.1) := mq0 hS (u_top hS.2.1 hS.2.2.1)
theorem m_least {w : Int32} (hS : MS h m ko to T) : RfQ mX8_least (d + 10) [.ref m, .int w] h m ko to T (q_least T.1 w) := by
  have hS0 := hS
  obtain ⟨hT, hM, hB, hTp, hRf, hSh, hK, hTr⟩ := hS
  obtain ⟨o1, o2, o3, o4, o5, o6⟩ := hT.1
  have n8 := hB.n8
  have l8 := hB.l8
  unfold q_least
  cases hb : inB w 0 1 with
  | false =>
    rw [if_neg (by decide)]
    exact mqR (k := 0) (by omega) hS0 (fun h1 r e => jm mi_X8_least (Nat.le_of_ble_eq_true rfl) ⟨.int, rfl, rfl⟩ rfl (k_X8_least_0 t_in_0_1 (Or.inl rfl) (fun z => absurd z (by rw [hb]; decide)) (fun _ => k_X8_least_10 r (Or.inl e) hM.g)))
  | true =>
    rw [if_pos rfl]
    obtain ⟨k, hk, rfl⟩ := inB_nI (n := 1) (by omega) hb
    rw [nn_I (by omega)]
    by_cases h0 : T.1.2.1.length = 0
    · rw [if_pos h0]
      exact mqR (k := 3) (by omega) hS0 (fun h1 r e => jm mi_X8_least (Nat.le_of_ble_eq_true rfl) ⟨.int, rfl, rfl⟩ rfl (k_X8_least_0 t_in_0_1 (Or.inl rfl) (fun _ => k_X8_least_18 hM.g (fun z => absurd (by rw [hB.sz, h0]; rfl) z) (fun _ => k_X8_least_25 r (Or.inl e) hM.g)) (fun z => absurd z (by rw [hb]; decide))))
    · rw [if_neg h0]
      have hlt := leastK_lt (P := T.1.1) (L := T.1.2.1) (by omega)
      have ent : ∀ {v : Int32}, J mX8_least (d + 10) 33 [some (.ref m), some (.int (nI k)), none] [] h (some (.int v)) h → RfQ mX8_least (d + 10) [.ref m, .int (nI k)] h m ko to T (.inr v) := fun kk => mq0 hS0 (jm mi_X8_least (Nat.le_of_ble_eq_true rfl) ⟨.int, rfl, rfl⟩ rfl (k_X8_least_0 t_in_0_1 (Or.inl rfl) (fun _ => k_X8_least_18 hM.g (fun _ => kk) (fun z => absurd ((nI_eq (b := 0) (by omega) (by omega)).mp (hB.sz.symm.trans z)) h0)) (fun z => absurd z (by rw [hb]; decide))))
      by_cases hk0 : k = 0
      · subst hk0
        rw [if_pos rfl]
        exact ent (k_X8_least_33 (u_leastAt hM hB o1 (by omega)) (Or.inl rfl) hM.g (fun z => absurd rfl z) (fun _ => k_X8_least_42 (u_slackAt hM hB o1 hlt) (Or.inl rfl) hM.g k_X8_least_56))
      · rw [if_neg hk0]
        exact ent (k_X8_least_33 (u_leastAt hM hB o1 (by omega)) (Or.inl rfl) hM.g (fun _ => k_X8_least_50 hM.g hM.r19 hM.g19 (vp_in_nI (by omega) (by omega)) (ji (by rw [nI_clamp (by omega), hB.sk hlt]) k_X8_least_56)) (fun z => absurd ((nI_eq (b := 0) (by omega) (by omega)).mp z) hk0))
theorem v_gladness (hM : ModH h m) {σ : WS} (hB : MB h m σ) (hL : inP σ.1 σ.2.1) : ∀ n j, σ.2.1.length - (j + 1) = n → j ≤ 8 → J mX8_gladness (d + 2) 4 [some (.ref m), some (.int (nI (gladL σ.1 σ.2.1 j))), some (.int (nI (j + 1)))] [] h (some (.int (nI (gladL σ.1 σ.2.1 (j + n))))) h := by
  have l8 := hB.l8
  intro n
  induction n with
  | zero =>
    intro j hj hl
    exact k_X8_gladness_4 hM.g (fun _ => k_X8_gladness_39) (fun q => absurd (by rw [hB.sz]; exact nI_le (by omega) (by omega)) q)
  | succ n ih =>
    intro j hj hl
    have e : nI (j + 1) - (1 : Int32) = nI j := pred_I (by omega) (by omega)
    refine k_X8_gladness_4 hM.g (fun q => absurd q (by rw [hB.sz]; exact nI_ge (by omega) (by omega))) (fun _ => k_X8_gladness_12 hM.g hM.r19 hM.g19 (by rw [e]; exact (vp_in_nI (by omega) (by omega))) (vp_in_nI (by omega) (by omega)) (by rw [e, nI_clamp (by omega), nI_clamp (by omega), hB.sk (by omega), hB.sk (by omega)]; exact u_fondOf hM hB (hL _ (getD_mem (by omega))) (hL _ (getD_mem (by omega)))) (Or.inl rfl) ?_)
    rw [nI_add, nI_1]
    have := ih (j + 1) (by omega) (by omega)
    rw [show j + 1 + n = j + (n + 1) by omega] at this
    exact this
theorem m_gladness (hS : MS h m ko to T) : RfQ mX8_gladness (d + 10) [.ref m] h m ko to T (q_gladness T.1) := by
  have hS0 := hS
  obtain ⟨hT, hM, hB, hTp, hRf, hSh, hK, hTr⟩ := hS
  obtain ⟨o1, o2, o3, o4, o5, o6⟩ := hT.1
  have n8 := hB.n8
  have l8 := hB.l8
  have := v_gladness (d := d + 8) hM hB o1 _ 0 rfl (by omega)
  simp only [Nat.zero_add] at this
  exact mq0 hS0 (jm mi_X8_gladness (Nat.le_of_ble_eq_true rfl) ⟨.int, rfl, rfl⟩ rfl (k_X8_gladness_0 this))
theorem n2_I {n : Nat} (hn : n < 2 ^ 31) : (nI n - (2 : Int32)).toInt64.toInt = (n : Int) - 2 := by
  rw [tr64, show (2 : Int32) = nI 2 from rfl, nI_nsub, sI_toInt (by omega) (by omega)]
  rfl
theorem m_between {c : Int32} (hS : MS h m ko to T) : RfQ mX8_between (d + 10) [.ref m, .int c] h m ko to T (q_between T.1 c) := by
  have hS0 := hS
  obtain ⟨hT, hM, hB, hTp, hRf, hSh, hK, hTr⟩ := hS
  obtain ⟨o1, o2, o3, o4, o5, o6⟩ := hT.1
  have n8 := hB.n8
  have l8 := hB.l8
  have hi : JMt mX8_in (some .boolean) (d + 9) [.long c.toInt64, .long (0 : Int64), .long ((hI h m 20 - (2 : Int32)).toInt64)] h (some (.int (bI (inB c 0 ((T.1.2.1.length : Int) - 2))))) h := by
    rw [hB.sz]; exact t_inI rfl (n2_I (by omega))
  unfold q_between
  by_cases hb : 0 ≤ c.toInt ∧ c.toInt + 1 < T.1.2.1.length
  · rw [if_pos hb]
    have hb2 : inB c 0 ((T.1.2.1.length : Int) - 2) = true := decide_eq_true (by omega)
    obtain ⟨k, hk, rfl⟩ := inr (x := c) (n := T.1.2.1.length) (by rw [lt0I]; omega) (by omega)
    rw [nI_toInt (by omega)] at hb
    rw [nn_I (by omega)]
    have e : nI k + (1 : Int32) = nI (k + 1) := nI_1 k
    refine mq0 hS0 (jm mi_X8_between (Nat.le_of_ble_eq_true rfl) ⟨.int, rfl, rfl⟩ rfl (k_X8_between_0 hM.g hi (Or.inl rfl) (fun z => absurd z (by rw [hb2]; decide)) (fun _ => k_X8_between_16 hM.g hM.r19 hM.g19 (vp_in_nI (by omega) (by omega)) (by rw [e]; exact (vp_in_nI (by omega) (by omega))) (by rw [e, nI_clamp (by omega), nI_clamp (by omega), hB.sk (by omega), hB.sk (by omega)]; exact u_fondOf hM hB (o1 _ (getD_mem (by omega))) (o1 _ (getD_mem (by omega)))) (Or.inl rfl) k_X8_between_44)))
  · rw [if_neg hb]
    have hb2 : inB c 0 ((T.1.2.1.length : Int) - 2) = false := decide_eq_false (by omega)
    exact mqR (k := 0) (by omega) hS0 (fun h1 r e => jm mi_X8_between (Nat.le_of_ble_eq_true rfl) ⟨.int, rfl, rfl⟩ rfl (k_X8_between_0 hM.g hi (Or.inl rfl) (fun _ => k_X8_between_37 r (Or.inl e) hM.g k_X8_between_44) (fun z => absurd z (by rw [hb2]; decide))))
theorem m_room {w : Int32} (hS : MS h m ko to T) : RfQ mX8_room (d + 10) [.ref m, .int w] h m ko to T (q_room T.1 w) := by
  have hS0 := hS
  obtain ⟨hT, hM, hB, hTp, hRf, hSh, hK, hTr⟩ := hS
  obtain ⟨o1, o2, o3, o4, o5, o6⟩ := hT.1
  have n8 := hB.n8
  have l8 := hB.l8
  unfold q_room
  cases hb : inB w 1 40 with
  | false =>
    rw [if_neg (by decide)]
    exact mqR (k := 0) (by omega) hS0 (fun h1 r e => jm mi_X8_room (Nat.le_of_ble_eq_true rfl) ⟨.int, rfl, rfl⟩ rfl (k_X8_room_0 t_in_1_40 (Or.inl rfl) (fun z => absurd z (by rw [hb]; decide)) (fun _ => k_X8_room_12 r (Or.inl e) hM.g)))
  | true =>
    rw [if_pos rfl]
    have hb' := of_decide_eq_true hb
    obtain ⟨k, hk, rfl⟩ := inr (x := w) (n := 41) (by rw [lt0I]; omega) (by omega)
    rw [nI_toInt (by omega)] at hb'
    rw [nn_I (by omega)]
    by_cases h0 : T.1.2.1.length = 0
    · rw [if_pos h0]
      exact mqR (k := 3) (by omega) hS0 (fun h1 r e => jm mi_X8_room (Nat.le_of_ble_eq_true rfl) ⟨.int, rfl, rfl⟩ rfl (k_X8_room_0 t_in_1_40 (Or.inl rfl) (fun _ => k_X8_room_20 hM.g (fun z => absurd (by rw [hB.sz, h0]; rfl) z) (fun _ => k_X8_room_27 r (Or.inl e) hM.g)) (fun z => absurd z (by rw [hb]; decide))))
    · rw [if_neg h0]
      have hlt := leastK_lt (P := T.1.1) (L := T.1.2.1) (by omega)
      have hbz := slackZ_b (P := T.1.1) (L := T.1.2.1) hB.ok l8 (leastK T.1.1 T.1.2.1)
      have ent : ∀ {v : Int32}, J mX8_room (d + 10) 35 [some (.ref m), some (.int (nI k)), none, none] [] h (some (.int v)) h → RfQ mX8_room (d + 10) [.ref m, .int (nI k)] h m ko to T (.inr v) := fun kk => mq0 hS0 (jm mi_X8_room (Nat.le_of_ble_eq_true rfl) ⟨.int, rfl, rfl⟩ rfl (k_X8_room_0 t_in_1_40 (Or.inl rfl) (fun _ => k_X8_room_20 hM.g (fun _ => kk) (fun z => absurd ((nI_eq (b := 0) (by omega) (by omega)).mp (hB.sz.symm.trans z)) h0)) (fun z => absurd z (by rw [hb]; decide))))
      generalize hz : slackZ T.1.1 T.1.2.1 (leastK T.1.1 T.1.2.1) = z at hbz
      have hsl := u_slackAt (d := d + 7) hM hB o1 hlt
      rw [hz] at hsl
      refine ent (k_X8_room_35 (u_leastAt hM hB o1 (by omega)) (Or.inl rfl) hM.g hsl (Or.inl rfl) hM.g (fun q => ?_) (fun q => ?_))
      · rw [zI (by omega) (by omega)] at q
        obtain ⟨y, hy⟩ := Int.eq_ofNat_of_zero_le q
        subst hy
        have e : sI (y : Int) / nI k = nI (y / k) := by rw [← nI_sI, pk_div (by omega) (by omega) (by omega)]
        have hyk : y / k ≤ y := Nat.div_le_self _ _
        refine k_X8_room_52 (fun e0 => absurd ((nI_eq (b := 0) (by omega) (by omega)).mp e0) (by omega)) ?_
        rw [e]
        refine k_X8_room_55 (fun q2 => ?_) (fun q2 => ?_)
        · rw [show (99 : Int32) = nI 99 from rfl, nI_leI (by omega) (by omega)] at q2
          refine k_X8_room_66 (ji (v := nI 99) (congrArg nI ?_) k_X8_room_68)
          rw [if_neg (by omega), show (y : Int).toNat = y from rfl]
          omega
        · rw [show (99 : Int32) = nI 99 from rfl, nI_leI (by omega) (by omega)] at q2
          refine k_X8_room_62 (ji (congrArg nI ?_) k_X8_room_68)
          rw [if_neg (by omega), show (y : Int).toNat = y from rfl]
          omega
      · rw [zI (by omega) (by omega)] at q
        refine k_X8_room_48 (k_X8_room_55 (fun q2 => absurd q2 (by decide)) (fun _ => k_X8_room_62 (ji (v := nI 0) (congrArg nI ?_) k_X8_room_68)))
        rw [if_pos (by omega)]
theorem m_fond {p q : Int32} (hS : MS h m ko to T) : RfQ mX8_fond (d + 10) [.ref m, .int p, .int q] h m ko to T (q_fond T.1 p q) := by
  have hS0 := hS
  obtain ⟨hT, hM, hB, hTp, hRf, hSh, hK, hTr⟩ := hS
  obtain ⟨o1, o2, o3, o4, o5, o6⟩ := hT.1
  have n8 := hB.n8
  have l8 := hB.l8
  unfold q_fond
  cases hp : hasB T.1.1.length p with
  | false =>
    rw [Bool.false_and, Bool.false_and, if_neg (by decide)]
    exact mqR (k := 0) (by omega) hS0 (fun h1 r e => jm mi_X8_fond (Nat.le_of_ble_eq_true rfl) ⟨.int, rfl, rfl⟩ rfl (k_X8_fond_0 (t_isPerson hM hB) (Or.inl rfl) hM.g (fun _ => k_X8_fond_32 r (Or.inl e) hM.g k_X8_fond_39) (fun z => absurd z (by rw [hp]; decide))))
  | true =>
    rw [Bool.true_and]
    obtain ⟨i, hi, rfl⟩ := hasB_nI hp
    cases hq : hasB T.1.1.length q with
    | false =>
      rw [Bool.false_and, if_neg (by decide)]
      exact mqR (k := 0) (by omega) hS0 (fun h1 r e => jm mi_X8_fond (Nat.le_of_ble_eq_true rfl) ⟨.int, rfl, rfl⟩ rfl (k_X8_fond_0 (t_isPerson hM hB) (Or.inl rfl) hM.g (fun z => absurd z (by rw [hp]; decide)) (fun _ => k_X8_fond_9 (t_isPerson hM hB) (Or.inl rfl) hM.g (fun _ => k_X8_fond_32 r (Or.inl e) hM.g k_X8_fond_39) (fun z => absurd z (by rw [hq]; decide)))))
    | true =>
      rw [Bool.true_and]
      obtain ⟨j, hj, rfl⟩ := hasB_nI hq
      rw [nn_I (by omega), nn_I (by omega)]
      by_cases hij : i = j
      · rw [if_neg (by rw [decide_eq_true_eq]; exact fun z => z hij)]
        exact mqR (k := 0) (by omega) hS0 (fun h1 r e => jm mi_X8_fond (Nat.le_of_ble_eq_true rfl) ⟨.int, rfl, rfl⟩ rfl (k_X8_fond_0 (t_isPerson hM hB) (Or.inl rfl) hM.g (fun z => absurd z (by rw [hp]; decide)) (fun _ => k_X8_fond_9 (t_isPerson hM hB) (Or.inl rfl) hM.g (fun z => absurd z (by rw [hq]; decide)) (fun _ => k_X8_fond_18 (fun _ => k_X8_fond_32 r (Or.inl e) hM.g k_X8_fond_39) (fun z => absurd (by rw [hij]) z)))))
      · rw [if_pos (by rw [decide_eq_true_eq]; exact hij)]
        exact mq0 hS0 (jm mi_X8_fond (Nat.le_of_ble_eq_true rfl) ⟨.int, rfl, rfl⟩ rfl (k_X8_fond_0 (t_isPerson hM hB) (Or.inl rfl) hM.g (fun z => absurd z (by rw [hp]; decide)) (fun _ => k_X8_fond_9 (t_isPerson hM hB) (Or.inl rfl) hM.g (fun z => absurd z (by rw [hq]; decide)) (fun _ => k_X8_fond_18 (fun z => absurd ((nI_eq (by omega) (by omega)).mp z) hij) (fun _ => k_X8_fond_23 (u_fondOf hM hB hi hj) (Or.inl rfl) hM.g k_X8_fond_39)))))
theorem v_ofKind {k : Nat} (hk : k ≤ 5) (hM : ModH h m) {σ : WS} (hB : MB h m σ) : ∀ n j, σ.1.length - j = n → j ≤ σ.1.length → J mX8_ofKind (d + 1) 24 [some (.ref m), some (.int (nI k)), some (.int (nI (sumN (fun p => if (pg σ.1 p).1 = k then 1 else 0) j))), some (.int (nI j))] [] h (some (.int (nI (sumN (fun p => if (pg σ.1 p).1 = k then 1 else 0) σ.1.length)))) h := by
  have n8 := hB.n8
  intro n
  induction n with
  | zero =>
    intro j hj hl
    have : j = σ.1.length := by omega
    subst this
    exact k_X8_ofKind_24 hM.g (fun _ => k_X8_ofKind_56) (fun q => absurd (by rw [hB.n]; exact nI_le (by omega) (by omega)) q)
  | succ n ih =>
    intro j hj hl
    have hjl : j < σ.1.length := by omega
    obtain ⟨o1, -⟩ := pg_ok hB.ok j
    have nx := ih (j + 1) (by omega) (by omega)
    refine k_X8_ofKind_24 hM.g (fun q => absurd q (by rw [hB.n]; exact nI_ge hjl (by omega))) (fun _ => k_X8_ofKind_32 hM.g hM.r14 hM.g14 (vp_in_nI (by omega) (by omega)) (fun q => ?_) (fun q => ?_))
    · rw [nI_clamp (by omega), hB.kd hjl, nI_eq (by omega) (by omega)] at q
      refine k_X8_ofKind_47 (k_X8_ofKind_48 ?_)
      have e : sumN (fun p => if (pg σ.1 p).1 = k then 1 else 0) (j + 1) = sumN (fun p => if (pg σ.1 p).1 = k then 1 else 0) j + 0 := by
        show sumN _ j + (if _ then 1 else 0) = _
        rw [if_neg q]
      rw [e] at nx
      rw [nI_1, show (0 : Int32) = nI 0 from rfl, nI_add]
      exact nx
    · rw [nI_clamp (by omega), hB.kd hjl, nI_eq (by omega) (by omega)] at q
      refine k_X8_ofKind_43 (k_X8_ofKind_48 ?_)
      have e : sumN (fun p => if (pg σ.1 p).1 = k then 1 else 0) (j + 1) = sumN (fun p => if (pg σ.1 p).1 = k then 1 else 0) j + 1 := by
        show sumN _ j + (if _ then 1 else 0) = _
        rw [if_pos q]
      rw [e] at nx
      rw [nI_1, show (1 : Int32) = nI 1 from rfl, nI_add]
      exact nx
theorem m_ofKind {k : Int32} (hS : MS h m ko to T) : RfQ mX8_ofKind (d + 10) [.ref m, .int k] h m ko to T (q_ofKind T.1 k) := by
  have hS0 := hS
  obtain ⟨hT, hM, hB, hTp, hRf, hSh, hK, hTr⟩ := hS
  obtain ⟨o1, o2, o3, o4, o5, o6⟩ := hT.1
  have n8 := hB.n8
  have l8 := hB.l8
  unfold q_ofKind
  cases hb : inB k 0 5 with
  | false =>
    rw [if_neg (by decide)]
    exact mqR (k := 0) (by omega) hS0 (fun h1 r e => jm mi_X8_ofKind (Nat.le_of_ble_eq_true rfl) ⟨.int, rfl, rfl⟩ rfl (k_X8_ofKind_0 t_in_0_5 (Or.inl rfl) (fun z => absurd z (by rw [hb]; decide)) (fun _ => k_X8_ofKind_12 r (Or.inl e) hM.g)))
  | true =>
    rw [if_pos rfl]
    obtain ⟨k, hk, rfl⟩ := inB_nI (n := 5) (by omega) hb
    rw [nn_I (by omega)]
    exact mq0 hS0 (jm mi_X8_ofKind (Nat.le_of_ble_eq_true rfl) ⟨.int, rfl, rfl⟩ rfl (k_X8_ofKind_0 t_in_0_5 (Or.inl rfl) (fun _ => k_X8_ofKind_20 (v_ofKind hk hM hB _ 0 rfl (Nat.zero_le _))) (fun z => absurd z (by rw [hb]; decide))))
theorem le8 {k : Nat} (h : k ≤ 8) : k = 0 ∨ k = 1 ∨ k = 2 ∨ k = 3 ∨ k = 4 ∨ k = 5 ∨ k = 6 ∨ k = 7 ∨ k = 8 := by omega
theorem m_personOf {p w : Int32} (hS : MS h m ko to T) : RfQ mX8_personOf (d + 10) [.ref m, .int p, .int w] h m ko to T (q_personOf T.1 p w) := by
  have hS0 := hS
  obtain ⟨hT, hM, hB, hTp, hRf, hSh, hK, hTr⟩ := hS
  obtain ⟨o1, o2, o3, o4, o5, o6⟩ := hT.1
  have n8 := hB.n8
  have l8 := hB.l8
  unfold q_personOf
  cases hp : hasB T.1.1.length p with
  | false =>
    rw [Bool.false_and, if_neg (by decide)]
    exact mqR (k := 0) (by omega) hS0 (fun h1 r e => jm mi_X8_personOf (Nat.le_of_ble_eq_true rfl) ⟨.int, rfl, rfl⟩ rfl (k_X8_personOf_0 (t_isPerson hM hB) (Or.inl rfl) hM.g (fun _ => k_X8_personOf_21 r (Or.inl e) hM.g) (fun z => absurd z (by rw [hp]; decide))))
  | true =>
    rw [Bool.true_and]
    obtain ⟨i, hi, rfl⟩ := hasB_nI hp
    cases hb : inB w 0 8 with
    | false =>
      rw [if_neg (by decide)]
      exact mqR (k := 0) (by omega) hS0 (fun h1 r e => jm mi_X8_personOf (Nat.le_of_ble_eq_true rfl) ⟨.int, rfl, rfl⟩ rfl (k_X8_personOf_0 (t_isPerson hM hB) (Or.inl rfl) hM.g (fun z => absurd z (by rw [hp]; decide)) (fun _ => k_X8_personOf_9 t_in_0_8 (Or.inl rfl) (fun z => absurd z (by rw [hb]; decide)) (fun _ => k_X8_personOf_21 r (Or.inl e) hM.g))))
    | true =>
      rw [if_pos rfl]
      obtain ⟨w, hw, rfl⟩ := inB_nI (n := 8) (by omega) hb
      rw [nn_I (by omega), nn_I (by omega)]
      have vi : vp_in (nI i) 8 := (vp_in_nI (by omega) (by omega))
      have ci : (nI i).toNatClampNeg = i := nI_clamp (by omega)
      have ent : ∀ {v : Int32}, J mX8_personOf (d + 10) 29 [some (.ref m), some (.int (nI i)), some (.int (nI w))] [] h (some (.int v)) h → RfQ mX8_personOf (d + 10) [.ref m, .int (nI i), .int (nI w)] h m ko to T (.inr v) := fun kk => mq0 hS0 (jm mi_X8_personOf (Nat.le_of_ble_eq_true rfl) ⟨.int, rfl, rfl⟩ rfl (k_X8_personOf_0 (t_isPerson hM hB) (Or.inl rfl) hM.g (fun z => absurd z (by rw [hp]; decide)) (fun _ => k_X8_personOf_9 t_in_0_8 (Or.inl rfl) (fun _ => kk) (fun z => absurd z (by rw [hb]; decide)))))
      have ww : (nI w).toInt = w := nI_toInt (by omega)
      rcases le8 hw with rfl | rfl | rfl | rfl | rfl | rfl | rfl | rfl | rfl
      · exact ent (k_X8_personOf_29 (fun z => absurd z (by omega)) (fun _ => ji (by rw [ci]; exact hB.kd hi) (k_X8_personOf_76 hM.g hM.r14 hM.g14 vi)) (fun z => absurd z (by decide)) (fun z => absurd z (by decide)) (fun z => absurd z (by decide)) (fun z => absurd z (by decide)) (fun z => absurd z (by decide)) (fun z => absurd z (by decide)) (fun z => absurd z (by decide)))
      · exact ent (k_X8_personOf_29 (fun z => absurd z (by omega)) (fun z => absurd z (by decide)) (fun _ => ji (by rw [ci]; exact hB.a hi) (k_X8_personOf_83 hM.g hM.r15 hM.g15 vi)) (fun z => absurd z (by decide)) (fun z => absurd z (by decide)) (fun z => absurd z (by decide)) (fun z => absurd z (by decide)) (fun z => absurd z (by decide)) (fun z => absurd z (by decide)))
      · exact ent (k_X8_personOf_29 (fun z => absurd z (by omega)) (fun z => absurd z (by decide)) (fun z => absurd z (by decide)) (fun _ => ji (by rw [ci]; exact hB.we hi) (k_X8_personOf_90 hM.g hM.r16 hM.g16 vi)) (fun z => absurd z (by decide)) (fun z => absurd z (by decide)) (fun z => absurd z (by decide)) (fun z => absurd z (by decide)) (fun z => absurd z (by decide)))
      · exact ent (k_X8_personOf_29 (fun z => absurd z (by omega)) (fun z => absurd z (by decide)) (fun z => absurd z (by decide)) (fun z => absurd z (by decide)) (fun _ => ji (by rw [ci]; exact hB.sr hi) (k_X8_personOf_97 hM.g hM.r17 hM.g17 vi)) (fun z => absurd z (by decide)) (fun z => absurd z (by decide)) (fun z => absurd z (by decide)) (fun z => absurd z (by decide)))
      · exact ent (k_X8_personOf_29 (fun z => absurd z (by omega)) (fun z => absurd z (by decide)) (fun z => absurd z (by decide)) (fun z => absurd z (by decide)) (fun z => absurd z (by decide)) (fun _ => ji (by rw [ci]; exact hB.ne hi) (k_X8_personOf_104 hM.g hM.r18 hM.g18 vi)) (fun z => absurd z (by decide)) (fun z => absurd z (by decide)) (fun z => absurd z (by decide)))
      · exact ent (k_X8_personOf_29 (fun z => absurd z (by omega)) (fun z => absurd z (by decide)) (fun z => absurd z (by decide)) (fun z => absurd z (by decide)) (fun z => absurd z (by decide)) (fun z => absurd z (by decide)) (fun _ => k_X8_personOf_111 (u_massOf hM hB hi) (Or.inl rfl) hM.g) (fun z => absurd z (by decide)) (fun z => absurd z (by decide)))
      · exact ent (k_X8_personOf_29 (fun z => absurd z (by omega)) (fun z => absurd z (by decide)) (fun z => absurd z (by decide)) (fun z => absurd z (by decide)) (fun z => absurd z (by decide)) (fun z => absurd z (by decide)) (fun z => absurd z (by decide)) (fun _ => k_X8_personOf_117 (u_bears hM hB hi) (Or.inl rfl) hM.g) (fun z => absurd z (by decide)))
      · exact ent (k_X8_personOf_29 (fun z => absurd z (by omega)) (fun z => absurd z (by decide)) (fun z => absurd z (by decide)) (fun z => absurd z (by decide)) (fun z => absurd z (by decide)) (fun z => absurd z (by decide)) (fun z => absurd z (by decide)) (fun z => absurd z (by decide)) (fun _ => k_X8_personOf_123 (u_tallness hM hB hi) (Or.inl rfl) hM.g))
      · exact ent (k_X8_personOf_29 (fun _ => k_X8_personOf_129 (u_courseOf hM hB o1 (by omega)) (Or.inl rfl) hM.g) (fun z => absurd z (by decide)) (fun z => absurd z (by decide)) (fun z => absurd z (by decide)) (fun z => absurd z (by decide)) (fun z => absurd z (by decide)) (fun z => absurd z (by decide)) (fun z => absurd z (by decide)) (fun z => absurd z (by decide)))
theorem m_of {p w : Int32} (hS : MS h m ko to T) : RfQ mX8_of (d + 10) [.ref m, .int p, .int w] h m ko to T (q_of T.1 p w) := by
  have hS0 := hS
  obtain ⟨hT, hM, hB, hTp, hRf, hSh, hK, hTr⟩ := hS
  obtain ⟨o1, o2, o3, o4, o5, o6⟩ := hT.1
  have n8 := hB.n8
  have l8 := hB.l8
  unfold q_of
  cases hp : hasB T.1.1.length p with
  | false =>
    rw [Bool.false_and, if_neg (by decide)]
    exact mqR (k := 0) (by omega) hS0 (fun h1 r e => jm mi_X8_of (Nat.le_of_ble_eq_true rfl) ⟨.int, rfl, rfl⟩ rfl (k_X8_of_0 (t_isPerson hM hB) (Or.inl rfl) hM.g (fun _ => k_X8_of_21 r (Or.inl e) hM.g) (fun z => absurd z (by rw [hp]; decide))))
  | true =>
    rw [Bool.true_and]
    obtain ⟨i, hi, rfl⟩ := hasB_nI hp
    cases hb : inB w 0 4 with
    | false =>
      rw [if_neg (by decide)]
      exact mqR (k := 0) (by omega) hS0 (fun h1 r e => jm mi_X8_of (Nat.le_of_ble_eq_true rfl) ⟨.int, rfl, rfl⟩ rfl (k_X8_of_0 (t_isPerson hM hB) (Or.inl rfl) hM.g (fun z => absurd z (by rw [hp]; decide)) (fun _ => k_X8_of_9 t_in_0_4 (Or.inl rfl) (fun z => absurd z (by rw [hb]; decide)) (fun _ => k_X8_of_21 r (Or.inl e) hM.g))))
    | true =>
      rw [if_pos rfl]
      obtain ⟨w, hw, rfl⟩ := inB_nI (n := 4) (by omega) hb
      rw [nn_I (by omega), nn_I (by omega)]
      have hc := u_courseOf (d := d + 9) (x := i) hM hB o1 (by omega)
      cases hk : courseF T.1.2.1 i 0 with
      | none =>
        rw [hk] at hc
        exact mqR (k := 3) (by omega) hS0 (fun h1 r e => jm mi_X8_of (Nat.le_of_ble_eq_true rfl) ⟨.int, rfl, rfl⟩ rfl (k_X8_of_0 (t_isPerson hM hB) (Or.inl rfl) hM.g (fun z => absurd z (by rw [hp]; decide)) (fun _ => k_X8_of_9 t_in_0_4 (Or.inl rfl) (fun _ => k_X8_of_29 hc (Or.inl rfl) hM.g (fun z => absurd rfl z) (fun _ => k_X8_of_40 r (Or.inl e) hM.g)) (fun z => absurd z (by rw [hb]; decide)))))
      | some k =>
        rw [hk] at hc
        obtain ⟨hkl, -⟩ := courseF_lt hk
        dsimp only
        have ent : ∀ {v : Int32}, J mX8_of (d + 10) 48 [some (.ref m), some (.int (nI i)), some (.int (nI w)), some (.int (nI k))] [] h (some (.int v)) h → RfQ mX8_of (d + 10) [.ref m, .int (nI i), .int (nI w)] h m ko to T (.inr v) := fun kk => mq0 hS0 (jm mi_X8_of (Nat.le_of_ble_eq_true rfl) ⟨.int, rfl, rfl⟩ rfl (k_X8_of_0 (t_isPerson hM hB) (Or.inl rfl) hM.g (fun z => absurd z (by rw [hp]; decide)) (fun _ => k_X8_of_9 t_in_0_4 (Or.inl rfl) (fun _ => k_X8_of_29 hc (Or.inl rfl) hM.g (fun _ => kk) (fun z => absurd z (nI_nneg1 (by omega)))) (fun z => absurd z (by rw [hb]; decide)))))
        have ww : (nI w).toInt = w := nI_toInt (by omega)
        rcases le4 hw with rfl | rfl | rfl | rfl | rfl
        · exact ent (k_X8_of_48 (fun z => absurd z (by omega)) (fun _ => k_X8_of_80 (u_loadAt hM hB o1 hkl) (Or.inl rfl) hM.g) (fun z => absurd z (by decide)) (fun z => absurd z (by decide)) (fun z => absurd z (by decide)))
        · exact ent (k_X8_of_48 (fun z => absurd z (by omega)) (fun z => absurd z (by decide)) (fun _ => k_X8_of_86 (u_slackAt hM hB o1 hkl) (Or.inl rfl) hM.g) (fun z => absurd z (by decide)) (fun z => absurd z (by decide)))
        · exact ent (k_X8_of_48 (fun z => absurd z (by omega)) (fun z => absurd z (by decide)) (fun z => absurd z (by decide)) (fun _ => k_X8_of_92 (u_upAt hM hB o1 (by omega)) (Or.inl rfl) hM.g) (fun z => absurd z (by decide)))
        · exact ent (k_X8_of_48 (fun z => absurd z (by omega)) (fun z => absurd z (by decide)) (fun z => absurd z (by decide)) (fun z => absurd z (by decide)) (fun _ => k_X8_of_98 (u_crushedAt hM hB o1 hkl) (Or.inl rfl) hM.g (fun z => k_X8_of_110 (ji (v := 0) (by rw [bI_0.mp z]; rfl) k_X8_of_111)) (fun z => k_X8_of_106 (ji (v := 1) (by rw [bI_n0.mp z]; rfl) k_X8_of_111))))
        · exact ent (k_X8_of_48 (fun _ => k_X8_of_112 (u_shakesAt hM hB o1 hkl) (Or.inl rfl) hM.g (fun z => k_X8_of_124 (ji (v := 0) (by rw [bI_0.mp z]; rfl) k_X8_of_125)) (fun z => k_X8_of_120 (ji (v := 1) (by rw [bI_n0.mp z]; rfl) k_X8_of_125))) (fun z => absurd z (by decide)) (fun z => absurd z (by decide)) (fun z => absurd z (by decide)) (fun z => absurd z (by decide)))
end MQS
