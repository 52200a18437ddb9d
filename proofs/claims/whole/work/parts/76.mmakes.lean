/-! the reference: image, back, tower; it may make another reference -/
def ownR (m : Nat) (ko to : Option Nat) (i : Nat) : Prop := (m ≤ i ∧ i < m + 285) ∨ (∃ k, ko = some k ∧ k ≤ i ∧ i < k + 285) ∨ ∃ t, to = some t ∧ t ≤ i ∧ i < t + 285
def restN (o : Option Nat) : Nat := match o with
  | none => 1
  | some _ => 0
/-- a statement of the reference that may make another one -/
def RfM (M : JM) (d : Nat) (as : List Value) (h : PH) (m : Nat) (ko to : Option Nat) (v : Int32) (T' : TS) : Prop := ∃ h1 ko' to', JMt M (some .int) d as h (some (.int v)) h1 ∧ Chg (ownR m ko to) h h1 ∧ (∀ i, i < hn h → ownR m ko' to' i → ownR m ko to i) ∧ hn h1 + 285 * (restN ko' + restN to') = hn h + 285 * (restN ko + restN to) ∧ hs h1 + 3829 * (restN ko' + restN to') = hs h + 3829 * (restN ko + restN to) ∧ MS h1 m ko' to' T'
/-- what of a reference its own cells tell -/
def MCo (h : PH) (m : Nat) (T : TS) : Prop := ModH h m ∧ MB h m T.1 ∧ MT h m T.2.2.2.1 ∧ (∀ i, i < 5 → hI h (m + 16) (i + 2) = T.2.2.2.2 i) ∧ ∀ s, s < 8 → mshf h m s (T.2.2.1 s)
theorem mref_22 : ∀ q ∈ mref, q.1 ≠ 22 ∧ q.1 ≠ 23 ∧ q.2.1 < 285 ∧ q.2.2.1 < 99 := by decide
theorem Chg.tr2 {S S' : Nat → Prop} {h h1 h2 : PH} (a : Chg S h h1) (b : Chg S' h1 h2) (hs : ∀ i, i < hn h → S' i → S i) : Chg S h h2 := by
  refine ⟨Nat.le_trans a.1 b.1, Nat.le_trans a.2.1 b.2.1, fun i hi => ?_⟩
  obtain ⟨e1, e2⟩ := a.2.2 i hi
  obtain ⟨f1, f2⟩ := b.2.2 i (Nat.lt_of_lt_of_le hi a.1)
  refine ⟨f1.trans e1, fun hS => ?_⟩
  obtain ⟨x1, x2, x3⟩ := e2 hS
  obtain ⟨y1, y2, y3⟩ := f2 (fun z => hS (hs i hi z))
  exact ⟨y1.trans x1, y2.trans x2, y3.trans x3⟩
section ME
variable {h h1 : PH} {m : Nat}
theorem Upf.chg {F : Nat → Nat → Prop} {S : Nat → Prop} (a : Upf F h h1) (hs : ∀ i k, F i k → S i) : Chg S h h1 := (a.upd hs).chg
theorem Chg.hg {S : Nat → Prop} (a : Chg S h h1) {i : Nat} (hi : i < hn h) : hG h1 i = hG h i := by
  unfold hG
  rw [if_pos (Nat.lt_of_lt_of_le hi a.1), if_pos hi, (a.2.2 i hi).1]
theorem ModH.lt (hM : ModH h m) : m + 285 ≤ hn h := by
  have := (hG_lt hM.g35 (by omega)).1
  omega
theorem ModH.eq (hM : ModH h m) (eg : ∀ i, m ≤ i → i < m + 285 → hG h1 i = hG h i) (er : ∀ i k, m ≤ i → i < m + 285 → ¬ (i = m ∧ (k = 22 ∨ k = 23)) → hR h1 i k = hR h i k) : ModH h1 m := by
  refine ⟨by rw [eg m (by omega) (by omega)]; exact hM.1, fun q hq => ?_, fun s hs => ?_, fun s hs => ?_⟩
  · obtain ⟨a, b, c, -⟩ := mref_22 q hq
    rw [er m q.1 (by omega) (by omega) (by omega), eg (m + q.2.1) (by omega) (by omega)]
    exact hM.2.1 q hq
  · rw [er (m + 4) s (by omega) (by omega) (by omega), eg (m + 5 + s) (by omega) (by omega)]
    exact hM.2.2.1 s hs
  · rw [er (m + 26) s (by omega) (by omega) (by omega), eg (m + 27 + s) (by omega) (by omega)]
    exact hM.2.2.2 s hs
theorem MB.eq {σ : WS} (hB : MB h m σ) (ei : ∀ i k, m ≤ i → i < m + 285 → hI h1 i k = hI h i k) : MB h1 m σ := ⟨hB.1.of (fun i k q => ei i k (by omega) (by omega)), hB.2.1.of (fun i k q => ei i k (by omega) (by omega)), hB.2.2.of (fun i k q => ei i k (by omega) (by omega))⟩
theorem mshf.eq {s : Nat} {q : Shf} (hs : s < 8) (hq : mshf h m s q) (e : ∀ i k, m ≤ i → i < m + 285 → hI h1 i k = hI h i k) (eL : ∀ i k, m ≤ i → i < m + 285 → hL h1 i k = hL h i k) : mshf h1 m s q := by
  match q, hq with
  | none, q1 => exact (e (m + 1) s (by omega) (by omega)).trans q1
  | some (.inl p), ⟨q1, q2⟩ => exact ⟨(e (m + 1) s (by omega) (by omega)).trans q1, (e (m + 14) s (by omega) (by omega)).trans q2⟩
  | some (.inr (sort, n, v)), ⟨q1, q2, q3, q4, q5, q6⟩ => exact ⟨(e (m + 1) s (by omega) (by omega)).trans q1, (e (m + 2) s (by omega) (by omega)).trans q2, (e (m + 3) s (by omega) (by omega)).trans q3, q4, q5, fun k hk => by rw [eL (m + 5 + s) k (by omega) (by omega)]; exact q6 k hk⟩
theorem MCo.eq {T : TS} (hC : MCo h m T) (eg : ∀ i, m ≤ i → i < m + 285 → hG h1 i = hG h i) (ei : ∀ i k, m ≤ i → i < m + 285 → hI h1 i k = hI h i k) (el : ∀ i k, m ≤ i → i < m + 285 → hL h1 i k = hL h i k) (er : ∀ i k, m ≤ i → i < m + 285 → ¬ (i = m ∧ (k = 22 ∨ k = 23)) → hR h1 i k = hR h i k) : MCo h1 m T := by
  obtain ⟨c1, c2, c3, c4, c5⟩ := hC
  refine ⟨c1.eq eg er, c2.eq ei, c3.of (fun i k q => ei i k (by omega) (by omega)), fun i hi => ?_, fun s hs => (c5 s hs).eq hs ei el⟩
  rw [ei (m + 16) (i + 2) (by omega) (by omega)]
  exact c4 i hi
theorem MCo.chg {S : Nat → Prop} {T : TS} (hC : MCo h m T) (a : Chg S h h1) (hS : ∀ i, m ≤ i → i < m + 285 → ¬ S i) : MCo h1 m T := by
  have hl := hC.1.lt
  refine hC.eq (fun i h1 h2 => a.hg (by omega)) (fun i k h1 h2 => ?_) (fun i k h1 h2 => ?_) (fun i k h1 h2 _ => ?_)
  · rw [((a.2.2 i (by omega)).2 (hS i h1 h2)).1]
  · rw [((a.2.2 i (by omega)).2 (hS i h1 h2)).2.1]
  · rw [((a.2.2 i (by omega)).2 (hS i h1 h2)).2.2]
theorem ModH.chg {S : Nat → Prop} (hM : ModH h m) (a : Chg S h h1) (hS : ∀ i, m ≤ i → i < m + 285 → ¬ S i) : ModH h1 m := by
  have hl := hM.lt
  refine hM.eq (fun i h1 h2 => a.hg (by omega)) (fun i k h1 h2 _ => ?_)
  rw [((a.2.2 i (by omega)).2 (hS i h1 h2)).2.2]
theorem MB.chg {S : Nat → Prop} {σ : WS} (hM : ModH h m) (hB : MB h m σ) (a : Chg S h h1) (hS : ∀ i, m ≤ i → i < m + 285 → ¬ S i) : MB h1 m σ := by
  have hl := hM.lt
  refine hB.eq (fun i k h1 h2 => ?_)
  rw [((a.2.2 i (by omega)).2 (hS i h1 h2)).1]
variable {ko to : Option Nat} {T : TS}
theorem MS.co (hS : MS h m ko to T) : MCo h m T := ⟨hS.2.1, hS.2.2.1, hS.2.2.2.1, hS.2.2.2.2.1, hS.2.2.2.2.2.1⟩
theorem MCo.ms (hT : okT T) (hC : MCo h m T) (hK : MK h m ko T.2.1) (ht : MTr h m ko to) : MS h m ko to T := ⟨hT, hC.1, hC.2.1, hC.2.2.1, hC.2.2.2.1, hC.2.2.2.2, hK, ht⟩
/-- what others do leaves a reference as it is -/
theorem MS.chg {S : Nat → Prop} (hS : MS h m ko to T) (a : Chg S h h1) (hn' : ∀ i, ownR m ko to i → ¬ S i) : MS h1 m ko to T := by
  have hl := hS.2.1.lt
  have em : ∀ k, hR h1 m k = hR h m k := fun k => by rw [((a.2.2 m (by omega)).2 (hn' m (Or.inl ⟨by omega, by omega⟩))).2.2]
  refine MCo.ms hS.1 (hS.co.chg a (fun i h1 h2 => hn' i (Or.inl ⟨h1, h2⟩))) ?_ ?_
  · have hK := hS.2.2.2.2.2.2.1
    match ko, hK, hn' with
    | none, ⟨q1, q2⟩, _ => exact ⟨(em 22).trans q1, q2⟩
    | some k, ⟨q1, q2, q3, q4, q5⟩, hn' => exact ⟨(em 22).trans q1, q2, q3.chg a (fun i h1 h2 => hn' i (Or.inr (Or.inl ⟨k, rfl, h1, h2⟩))), MB.chg q3 q4 a (fun i h1 h2 => hn' i (Or.inr (Or.inl ⟨k, rfl, h1, h2⟩))), q5⟩
  · have hK := hS.2.2.2.2.2.2.2
    match to, hK, hn' with
    | none, q1, _ => exact (em 23).trans q1
    | some t, ⟨q1, q2, q3⟩, hn' => exact ⟨(em 23).trans q1, q2.chg a (fun i h1 h2 => hn' i (Or.inr (Or.inr ⟨t, rfl, h1, h2⟩))), q3⟩
theorem RfU.rm {M : JM} {D : Nat} {as : List Value} {v : Int32} {T' : TS} (hU : RfU M D as h m ko to v T') : RfM M D as h m ko to v T' := by
  obtain ⟨h1, a, b, c⟩ := hU
  exact ⟨h1, ko, to, a, b.chg (fun i k q => Or.inl q), fun i _ q => q, by rw [b.1], by rw [b.2.1], c⟩
end ME
section MN
variable {d : Nat} {h : PH} {m : Nat} {ko to : Option Nat} {T : TS}
/-- another reference is made -/
theorem u_make : ∃ h4, JMt mX8_init none (d + 1) [.ref (hn h)] (newC h 8 (fN 8) (fN 8)) none h4 ∧ hn h4 = hn h + 285 ∧ hs h4 = hs h + 3829 ∧ Chg (fun _ => False) h h4 ∧ ModH h4 (hn h) := by
  have g : hG (newC h 8 (fN 8) (fN 8)) (hn h) = (8, 38) := newG
  obtain ⟨h4, a1, a2, a3, a4, a5, -⟩ := u_init (d := d) (m := hn h) g rfl (fun k => ⟨newI, newR⟩)
  refine ⟨h4, a1, a2, by rw [a3]; show hs h + 38 + 3791 = _; omega, ?_, a5⟩
  have c0 : Chg (fun _ => False) h (newC h 8 (fN 8) (fN 8)) := Chg.newC
  exact c0.tr2 a4 (fun i hi y => by omega)
theorem img_fin {k : Nat} (hT : okT T) (hC : MCo h m T) (hr : hR h m 22 = some k) (hK : ModH h k) (hk : m + 285 ≤ k) (ht : MTr h m (some k) to) : ∃ h1, J mX8_image (d + 10) 18 [some (.ref m)] [] h (some (.int 1)) h1 ∧ Upf (fV k) h h1 ∧ MS h1 m (some k) to (T.1, (true, T.1), T.2.2) := by
  obtain ⟨h1, a1, a2, a3⟩ := u_takeFrom (d := d + 8) (m := k) (k := m) (Or.inr hk) hK hC.1 hC.2.1
  have c : Chg (fun i => k ≤ i) h h1 := a2.chg (fun i j q => by unfold fV at q; omega)
  refine ⟨h1, k_X8_image_18 hC.1.g hr a1 (Or.inl a2.1) hK.g, a2, MCo.ms ⟨hT.1, hT.1, hT.2.2⟩ (hC.chg c (fun i h1 h2 => by omega)) ⟨(a2.rr m 22).trans hr, rfl, hK.keep a2, a3, hk⟩ (ht.of a2)⟩
theorem m_image (hS : MS h m ko to T) : RfM mX8_image (d + 10) [.ref m] h m ko to (s_image T).1 (s_image T).2 := by
  have hS0 := hS
  obtain ⟨hT, hM, hB, hTp, hr, hsf, hK, ht⟩ := hS
  have hl := hM.lt
  match ko, hK with
  | some k, hK =>
    obtain ⟨q1, q2, q3, q4, q5⟩ := hK
    obtain ⟨h1, a1, a2, a3⟩ := img_fin (d := d) hT hS0.co q1 q3 q5 ht
    exact ⟨h1, some k, to, jm mi_X8_image (Nat.le_of_ble_eq_true rfl) ⟨.int, rfl, rfl⟩ rfl (k_X8_image_0 hM.g (fun z => absurd z (by rw [q1]; exact fun y => by cases y)) (fun i _ => a1)), a2.chg (fun i j q => Or.inr (Or.inl ⟨k, rfl, by unfold fV at q; omega, by unfold fV at q; omega⟩)), fun i _ q => q, by rw [a2.1], by rw [a2.2.1], a3⟩
  | none, hK =>
    obtain ⟨q1, q2⟩ := hK
    obtain ⟨h4, b1, b2, b3, b4, b5⟩ := u_make (d := d + 8) (h := h)
    have g4 : hG h4 m = (8, 38) := b4.gg hM.g (by omega)
    have C4 := hS0.co.chg b4 (fun i _ _ y => y)
    have c4 : Chg (fun i => i = m) h (setR h4 m 22 (some (hn h))) := (b4.mono (fun _ y => y.elim)).tr (Chg.setR rfl)
    generalize hz : setR h4 m 22 (some (hn h)) = h13 at c4
    have n13 : hn h13 = hn h4 := by rw [← hz]; rfl
    have s13 : hs h13 = hs h4 := by rw [← hz]; rfl
    have r13 : ∀ i k, ¬ (i = m ∧ k = 22) → hR h13 i k = hR h4 i k := fun i k q => by rw [← hz, hR_setR, if_neg q]
    have C13 : MCo h13 m T := C4.eq (fun i _ _ => by rw [← hz]; rfl) (fun i k _ _ => by rw [← hz]; rfl) (fun i k _ _ => by rw [← hz]; rfl) (fun i k _ _ q => r13 i k (fun y => q ⟨y.1, Or.inl y.2⟩))
    have K13 : ModH h13 (hn h) := b5.eq (fun i _ _ => by rw [← hz]; rfl) (fun i k h1 h2 q => r13 i k (by omega))
    have ht13 : MTr h13 m (some (hn h)) to := by
      match to, ht with
      | none, q1 => exact (r13 m 23 (by omega)).trans (by rw [((b4.2.2 m (by omega)).2 (fun y => y)).2.2]; exact q1)
      | some t, ⟨q1, q2, q3, q4⟩ =>
        have tl := q2.lt
        refine ⟨(r13 m 23 (by omega)).trans (by rw [((b4.2.2 m (by omega)).2 (fun y => y)).2.2]; exact q1), q2.chg c4 (fun i h1 h2 => by omega), q3, fun k hk => ?_⟩
        cases hk
        exact Or.inr tl
    obtain ⟨h1, a1, a2, a3⟩ := img_fin (d := d) hT C13 (by rw [← hz, hR_setR, if_pos ⟨rfl, rfl⟩]) K13 (by omega) ht13
    refine ⟨h1, some (hn h), to, jm mi_X8_image (Nat.le_of_ble_eq_true rfl) ⟨.int, rfl, rfl⟩ rfl (k_X8_image_0 hM.g (fun _ => k_X8_image_7 (h2 := newC h 8 (fN 8) (fN 8)) (h4 := h4) (vv_l (by show m < hn h; omega) (vv_s (by show m < hn h; omega) vv_o)) rfl b1 (Or.inr (vv_l (by show m < hn h + 1; omega) (vv_s (by show hn h < hn h + 1; omega) (vv_s (by show m < hn h + 1; omega) vv_o)))) g4 b5.g (by omega) hz a1) (fun i z => absurd (q1.symm.trans z) (fun y => by cases y))), (c4.mono (fun i y => Or.inl (by omega))).tr2 (a2.chg (S := fun i => hn h ≤ i) (fun i j q => by unfold fV at q; omega)) (fun i hi y => absurd hi (by omega)), fun i hi q => ?_, ?_, ?_, a3⟩
    · rcases q with q | ⟨k, e, q1, q2⟩ | q
      · exact Or.inl q
      · cases e; omega
      · exact Or.inr (Or.inr q)
    · rw [a2.1, n13, b2]
      show hn h + 285 + 285 * (0 + restN to) = hn h + 285 * (1 + restN to)
      omega
    · rw [a2.2.1, s13, b3]
      show hs h + 3829 + 3829 * (0 + restN to) = hs h + 3829 * (1 + restN to)
      omega
/-- the tried one holds the same world -/
theorem MS.tried {t : Nat} {h1 : PH} (hS : MS h m ko (some t) T) (a : Upf (fV t) h h1) : MS h1 m ko (some t) T := by
  have hS0 := hS
  obtain ⟨hT, hM, hB, hTp, hr, hsf, hK, ht⟩ := hS
  obtain ⟨t1, t2, t3, t4⟩ := ht
  have c : Chg (fun i => t ≤ i ∧ i < t + 285) h h1 := a.chg (fun i j q => by unfold fV at q; omega)
  refine MCo.ms hT (hS0.co.chg c (fun i h1 h2 q => by omega)) ?_ ⟨(a.rr m 23).trans t1, t2.keep a, t3, t4⟩
  match ko, hK, t4 with
  | none, ⟨q1, q2⟩, _ => exact ⟨(a.rr m 22).trans q1, q2⟩
  | some k, ⟨q1, q2, q3, q4, q5⟩, t4 =>
    have := t4 k rfl
    exact ⟨(a.rr m 22).trans q1, q2, q3.keep a, MB.chg q3 q4 c (fun i h1 h2 q => by omega), q5⟩
theorem tow_fin {t : Nat} (hS : MS h m ko (some t) T) : ∃ h1, J mX8_tower (d + 10) 18 [some (.ref m), none] [] h (some (.int (s_tower T).1)) h1 ∧ Chg (ownR m ko (some t)) h h1 ∧ hn h1 = hn h ∧ hs h1 = hs h ∧ MS h1 m ko (some t) (s_tower T).2 := by
  have hT := hS.1
  have hM := hS.2.1
  have ht := hS.2.2.2.2.2.2.2
  obtain ⟨t1, t2, t3, t4⟩ := ht
  obtain ⟨h5, a1, a2, a3⟩ := u_takeFrom (d := d + 8) (m := t) (k := m) (Or.inr t3) t2 hM hS.2.2.1
  have S5 := hS.tried a2
  have M5 := S5.2.1
  have T5 := S5.2.2.2.1
  have c5 : Chg (ownR m ko (some t)) h h5 := a2.chg (fun i j q => Or.inr (Or.inr ⟨t, rfl, by unfold fV at q; omega, by unfold fV at q; omega⟩))
  obtain ⟨h10, b1, b2, b3, b4⟩ := u_readAll (d := d + 3) (m := m) (B := T.2.2.2.1) (σ := T.1) hT.1 M5 T5 S5.2.2.1
  have M10 := M5.keep b2
  have U18 : Upf (fun i k => i = m ∧ k = 7) h10 (setI h10 m 7 (0 : Int32)) := Upf.set ⟨rfl, rfl⟩
  generalize hz : setI h10 m 7 (0 : Int32) = h18 at U18
  have M18 := M10.keep U18
  have e7 : hI h18 m 7 = 0 := by rw [← hz, hI_setI, if_pos ⟨rfl, rfl⟩]
  have rb : -2250 ≤ (readA T.2.2.2.1 T.1).1 ∧ (readA T.2.2.2.1 T.1).1 ≤ 250 := read_b T5.2.1 250 1 (tokF T.2.2.2.1 0) T.1 rfl (tokF_ok (Nat.zero_le _)).1 hT.1
  have ent : ∀ {o : Option Value} {h' : PH}, (¬ bI (decide (0 ≤ (readA T.2.2.2.1 T.1).1)) = 0 → J mX8_tower (d + 10) 65 [some (.ref m), some (.int (bI (decide (0 ≤ (readA T.2.2.2.1 T.1).1))))] [] h18 o h') → (bI (decide (0 ≤ (readA T.2.2.2.1 T.1).1)) = 0 → J mX8_tower (d + 10) 40 [some (.ref m), some (.int (bI (decide (0 ≤ (readA T.2.2.2.1 T.1).1))))] [] h18 o h') → J mX8_tower (d + 10) 18 [some (.ref m), none] [] h o h' := fun k1 k2 => k_X8_tower_18 hM.g t1 a1 (Or.inl a2.1) t2.g b1 (Or.inl b2.1) M5.g M10.g hz k1 k2
  unfold s_tower
  by_cases hlt : (readA T.2.2.2.1 T.1).1 < 0
  · rw [if_pos hlt]
    have ef := b4 hlt
    have hb : decide (0 ≤ (readA T.2.2.2.1 T.1).1) = false := decide_eq_false (by omega)
    have c18 : Upf (fun i k => fVS m i k ∨ (i = m ∧ k = 7)) h5 h18 := (b2.mono (fun i k q => Or.inl q)).tr (U18.mono (fun i k q => Or.inr q))
    have T18 : ModH h18 t := S5.2.2.2.2.2.2.2.2.1.keep c18
    have B18 : MB h18 t T.1 := a3.keep c18 (fun i k q w => by unfold fVS fV fS at w; unfold fV at q; omega)
    obtain ⟨h3, d1, d2, d3⟩ := u_takeFrom (d := d + 8) (m := m) (k := t) (Or.inl t3) M18 T18 B18
    have c3 : Upf (fun i k => fVS m i k ∨ (i = m ∧ k = 7)) h5 h3 := c18.tr (d2.mono (fun i k q => Or.inl (Or.inl q)))
    have S3 : MS h3 m ko (some t) (updB T []) := by
      obtain ⟨s1, s2, s3, s4, s5, s6, s7, s8⟩ := S5
      refine ⟨s1, s2.keep c3, d3, ⟨?_, Nat.zero_le _, fun b hb => absurd hb List.not_mem_nil, fun k hk => absurd hk (Nat.not_lt_zero k)⟩, fun i hi => ?_, fun s hs => (s6 s hs).of (fun i k q => c3.ii (by unfold fVS fV fS; omega)) c3.2.2.2.2.1, s7.of c3 (fun i k q => by unfold fVS fV fS at q; omega), s8.of c3⟩
      · rw [d2.ii (by unfold fV; omega)]; exact e7
      · rw [c3.ii (by unfold fVS fV fS; omega)]; exact s5 i hi
    obtain ⟨h6, r1, r2, r3⟩ := u_refuse (k := 0) (d := d + 9) (by omega) S3
    have e28 : hI h6 m 28 = hI h10 m 28 := by rw [r2.ii (by omega), d2.ii (by unfold fV; omega), U18.ii (by omega)]
    have key := k_X8_tower_40 (d := d + 9) (a0 := m) (a1 := bI (decide (0 ≤ (readA T.2.2.2.1 T.1).1))) (h := h18) (h3 := h3) (h6 := h6) M18.g (by rw [c18.rr, a2.rr, t1]; exact d1) (Or.inl d2.1) r1 (Or.inl r2.1) S3.2.1.g r3.2.1.g
    rw [e28, ef] at key
    refine ⟨h6, ent (fun z => absurd (by rw [hb]; rfl) z) (fun _ => key), (c5.tr (c3.chg (fun i k q => Or.inl (by unfold fVS fV fS at q; omega)))).tr (r2.chg (fun i k q => Or.inl (by omega))), ?_, ?_, r3⟩
    · rw [r2.1, c3.1, a2.1]
    · rw [r2.2.1, c3.2.1, a2.2.1]
  · rw [if_neg hlt]
    obtain ⟨es, hB⟩ := b3 (by omega)
    have hb : decide (0 ≤ (readA T.2.2.2.1 T.1).1) = true := decide_eq_true (by omega)
    have S10 : MS h10 m ko (some t) (updW T (readA T.2.2.2.1 T.1).2) := S5.upd b2 hB (okT_w hT (okW_readF _ _ _ _ hT.1) (len_read 250 1 (tokF T.2.2.2.1 0) T.1))
    have S18 : MS h18 m ko (some t) (updB (updW T (readA T.2.2.2.1 T.1).2) []) := S10.tap (U18.mono (fun i k q => Or.inl q)) ⟨e7, Nat.zero_le _, fun b hb => absurd hb List.not_mem_nil, fun k hk => absurd hk (Nat.not_lt_zero k)⟩
    have key := k_X8_tower_65 (d := d + 10) (a0 := m) (a1 := bI (decide (0 ≤ (readA T.2.2.2.1 T.1).1))) (h := h18) M18.g
    rw [show hI h18 m 30 = sI (readA T.2.2.2.1 T.1).1 by rw [U18.ii (by omega)]; exact es] at key
    refine ⟨h18, ent (fun _ => key) (fun z => absurd z (by rw [hb]; decide)), (c5.tr (b2.chg (fun i k q => Or.inl (by unfold fVS fV fS at q; omega)))).tr (U18.chg (fun i k q => Or.inl (by omega))), ?_, ?_, S18⟩
    · rw [U18.1, b2.1, a2.1]
    · rw [U18.2.1, b2.2.1, a2.2.1]
theorem m_tower (hS : MS h m ko to T) : RfM mX8_tower (d + 10) [.ref m] h m ko to (s_tower T).1 (s_tower T).2 := by
  have hS0 := hS
  obtain ⟨hT, hM, hB, hTp, hr, hsf, hK, ht⟩ := hS
  have hl := hM.lt
  match to, ht, hS0 with
  | some t, ht, hS0 =>
    obtain ⟨h1, a1, a2, a3, a4, a5⟩ := tow_fin (d := d) hS0
    exact ⟨h1, ko, some t, jm mi_X8_tower (Nat.le_of_ble_eq_true rfl) ⟨.int, rfl, rfl⟩ rfl (k_X8_tower_0 hM.g (fun z => absurd z (by rw [ht.1]; exact fun y => by cases y)) (fun i _ => a1)), a2, fun i _ q => q, by rw [a3], by rw [a4], a5⟩
  | none, ht, hS0 =>
    have q1 : hR h m 23 = none := ht
    obtain ⟨h4, b1, b2, b3, b4, b5⟩ := u_make (d := d + 8) (h := h)
    have g4 : hG h4 m = (8, 38) := b4.gg hM.g (by omega)
    have S4 : MS h4 m ko none T := hS0.chg b4 (fun i _ y => y)
    have c4 : Chg (fun i => i = m) h (setR h4 m 23 (some (hn h))) := (b4.mono (fun _ y => y.elim)).tr (Chg.setR rfl)
    generalize hz : setR h4 m 23 (some (hn h)) = h13 at c4
    have n13 : hn h13 = hn h4 := by rw [← hz]; rfl
    have s13 : hs h13 = hs h4 := by rw [← hz]; rfl
    have r13 : ∀ i k, ¬ (i = m ∧ k = 23) → hR h13 i k = hR h4 i k := fun i k q => by rw [← hz, hR_setR, if_neg q]
    have C13 : MCo h13 m T := S4.co.eq (fun i _ _ => by rw [← hz]; rfl) (fun i k _ _ => by rw [← hz]; rfl) (fun i k _ _ => by rw [← hz]; rfl) (fun i k _ _ q => r13 i k (fun y => q ⟨y.1, Or.inr y.2⟩))
    have T13 : ModH h13 (hn h) := b5.eq (fun i _ _ => by rw [← hz]; rfl) (fun i k h1 h2 q => r13 i k (by omega))
    have S13 : MS h13 m ko (some (hn h)) T := by
      refine MCo.ms hT C13 ?_ ⟨by rw [← hz, hR_setR, if_pos ⟨rfl, rfl⟩], T13, hl, fun k hk => ?_⟩
      · have hK4 := S4.2.2.2.2.2.2.1
        match ko, hK4 with
        | none, ⟨q1, q2⟩ => exact ⟨(r13 m 22 (by omega)).trans q1, q2⟩
        | some k, ⟨q1, q2, q3, q4, q5⟩ => exact ⟨(r13 m 22 (by omega)).trans q1, q2, q3.eq (fun i _ _ => by rw [← hz]; rfl) (fun i j h1 h2 q => r13 i j (by omega)), q4.eq (fun i j _ _ => by rw [← hz]; rfl), q5⟩
      · match ko, hK, hk with
        | some k, ⟨q1, q2, q3, q4, q5⟩, rfl => exact Or.inl q3.lt
    obtain ⟨h1, a1, a2, a3, a4, a5⟩ := tow_fin (d := d) S13
    refine ⟨h1, ko, some (hn h), jm mi_X8_tower (Nat.le_of_ble_eq_true rfl) ⟨.int, rfl, rfl⟩ rfl (k_X8_tower_0 hM.g (fun _ => k_X8_tower_7 (h2 := newC h 8 (fN 8) (fN 8)) (h4 := h4) (vv_l (by show m < hn h; omega) (vv_n (vv_s (by show m < hn h; omega) vv_o))) rfl b1 (Or.inr (vv_l (by show m < hn h + 1; omega) (vv_n (vv_s (by show hn h < hn h + 1; omega) (vv_s (by show m < hn h + 1; omega) vv_o))))) g4 b5.g (by omega) hz a1) (fun i z => absurd (q1.symm.trans z) (fun y => by cases y))), (c4.mono (fun i y => Or.inl (by omega))).tr2 a2 (fun i hi y => ?_), fun i hi q => ?_, ?_, ?_, a5⟩
    · rcases y with q | q | ⟨t, e, q1, q2⟩
      · exact Or.inl q
      · exact Or.inr (Or.inl q)
      · cases e; omega
    · rcases q with q | q | ⟨t, e, q1, q2⟩
      · exact Or.inl q
      · exact Or.inr (Or.inl q)
      · cases e; omega
    · rw [a3, n13, b2]
      show hn h + 285 + 285 * (restN ko + 0) = hn h + 285 * (restN ko + 1)
      omega
    · rw [a4, s13, b3]
      show hs h + 3829 + 3829 * (restN ko + 0) = hs h + 3829 * (restN ko + 1)
      omega
theorem v_back {n : Nat} {F : Nat → Shf} (n8 : n ≤ 8) (hF : ∀ s, s < 8 → ∀ p, F s = some (.inl p) → p < 9) : ∀ k j (h : PH), 8 - j = k → j ≤ 8 → ModH h m → hI h m 13 = nI n → (∀ s, s < 8 → mshf h m s (if s < j then bckF n (F s) else F s)) →
    ∃ h1, J mX8_back (d + 10) 25 [some (.ref m), some (.int (nI j))] [] h (some (.int 1)) h1 ∧ Upf (fun i _ => i = m + 1) h h1 ∧ ∀ s, s < 8 → mshf h1 m s (bckF n (F s)) := by
  intro k
  induction k with
  | zero =>
    intro j h hk hj hM hn13 hsf
    have : j = 8 := by omega
    subst this
    exact ⟨h, k_X8_back_25 (fun _ => k_X8_back_67) (fun z => absurd (Int32.le_refl _) z), Upf.rf, fun s hs => by have := hsf s hs; rw [if_pos hs] at this; exact this⟩
  | succ k ih =>
    intro j h hk hj hM hn13 hsf
    have hjl : j < 8 := by omega
    have cj : (nI j).toNatClampNeg = j := nI_clamp (by omega)
    have qj := hsf j hjl
    rw [if_neg (by omega)] at qj
    -- this one stays as it is, or is cleared
    have keep : bckF n (F j) = F j → ∃ h1, J mX8_back (d + 10) 61 [some (.ref m), some (.int (nI j))] [] h (some (.int 1)) h1 ∧ Upf (fun i _ => i = m + 1) h h1 ∧ ∀ s, s < 8 → mshf h1 m s (bckF n (F s)) := fun e => by
      obtain ⟨h1, a1, a2, a3⟩ := ih (j + 1) h (by omega) (by omega) hM hn13 (fun s hs => by
        by_cases e1 : s < j
        · have := hsf s hs; rw [if_pos e1] at this; rw [if_pos (by omega)]; exact this
        · by_cases e2 : s = j
          · subst e2; rw [if_pos (by omega), e]; exact qj
          · have := hsf s hs; rw [if_neg e1] at this; rw [if_neg (by omega)]; exact this)
      exact ⟨h1, k_X8_back_61 (by rw [nI_1]; exact a1), a2, a3⟩
    have ent : ∀ {o : Option Value} {h' : PH}, J mX8_back (d + 10) 31 [some (.ref m), some (.int (nI j))] [] h o h' → J mX8_back (d + 10) 25 [some (.ref m), some (.int (nI j))] [] h o h' := fun kk => k_X8_back_25 (fun z => absurd z (nI_ge (b := 8) hjl (by omega))) (fun _ => kk)
    have not2 : (∀ v, hI h (m + 1) j = v → ¬ v = 2 → bckF n (F j) = F j → ∃ h1, J mX8_back (d + 10) 25 [some (.ref m), some (.int (nI j))] [] h (some (.int 1)) h1 ∧ Upf (fun i _ => i = m + 1) h h1 ∧ ∀ s, s < 8 → mshf h1 m s (bckF n (F s))) := fun v e1 e2 e3 => by
      obtain ⟨h1, a1, a2⟩ := keep e3
      exact ⟨h1, ent (k_X8_back_31 hM.g hM.r0 hM.g0 (vp_in_nI (by omega) (by omega)) (fun _ => a1) (fun z => absurd z (by rw [cj, e1]; exact e2))), a2⟩
    have hFj := hF j hjl
    generalize hq : F j = q at qj hFj not2 keep
    match q, qj, hFj, not2, keep with
    | none, q1, _, not2, _ => exact not2 0 q1 (by decide) rfl
    | some (.inr (sort, w, v)), ⟨q1, _⟩, _, not2, _ => exact not2 1 q1 (by decide) rfl
    | some (.inl p), ⟨q1, q2⟩, hFj, _, keep =>
      have hp9 := hFj p rfl
      have ent2 : ∀ {o : Option Value} {h' : PH}, (p < n → J mX8_back (d + 10) 61 [some (.ref m), some (.int (nI j))] [] h o h') → (¬ p < n → J mX8_back (d + 10) 54 [some (.ref m), some (.int (nI j))] [] h o h') → J mX8_back (d + 10) 25 [some (.ref m), some (.int (nI j))] [] h o h' := fun k1 k2 => ent (k_X8_back_31 hM.g hM.r0 hM.g0 (vp_in_nI (by omega) (by omega)) (fun z => absurd (by rw [cj, q1]) z) (fun _ => k_X8_back_41 hM.g hM.r5 hM.g5 (vp_in_nI (by omega) (by omega)) (fun z => k1 (by rw [cj, q2, hn13, nI_ltI (by omega) (by omega)] at z; exact z)) (fun z => k2 (by rw [cj, q2, hn13, nI_ltI (by omega) (by omega)] at z; exact z))))
      by_cases hpn : p < n
      · obtain ⟨h1, a1, a2⟩ := keep (if_pos hpn)
        exact ⟨h1, ent2 (fun _ => a1) (fun z => absurd hpn z), a2⟩
      · have U : Upf (fun i _ => i = m + 1) h (setI h (m + 1) (nI j).toNatClampNeg 0) := Upf.set rfl
        obtain ⟨h1, a1, a2, a3⟩ := ih (j + 1) (setI h (m + 1) (nI j).toNatClampNeg 0) (by omega) (by omega) (hM.keep U) (by rw [U.ii (by omega)]; exact hn13) (fun s hs => by
          by_cases e2 : s = j
          · subst e2
            rw [if_pos (by omega), hq, show bckF n (some (.inl p)) = none from if_neg hpn]
            show hI _ (m + 1) s = 0
            rw [cj, hI_setI, if_pos ⟨rfl, rfl⟩]
          · have e1 : hI (setI h (m + 1) (nI j).toNatClampNeg 0) (m + 1) s = hI h (m + 1) s := by rw [cj, hI_setI, if_neg (fun y => e2 y.2)]
            have := hsf s hs
            rw [show (if s < j + 1 then bckF n (F s) else F s) = if s < j then bckF n (F s) else F s by
              by_cases e3 : s < j
              · rw [if_pos e3, if_pos (by omega)]
              · rw [if_neg e3, if_neg (by omega)]]
            generalize (if s < j then bckF n (F s) else F s) = q at this
            match q, this with
            | none, y1 => exact e1.trans y1
            | some (.inl p), ⟨y1, y2⟩ => exact ⟨e1.trans y1, by rw [U.ii (by omega)]; exact y2⟩
            | some (.inr (sort, w, v)), ⟨y1, y2, y3, y4, y5, y6⟩ => exact ⟨e1.trans y1, by rw [U.ii (by omega)]; exact y2, by rw [U.ii (by omega)]; exact y3, y4, y5, fun k hk => by rw [U.ll]; exact y6 k hk⟩)
        exact ⟨h1, ent2 (fun z => absurd z hpn) (fun _ => k_X8_back_54 hM.g hM.r0 hM.g0 (vp_in_nI (by omega) (by omega)) (k_X8_back_61 (by rw [nI_1]; exact a1))), U.tr a2, a3⟩
theorem m_back (hS : MS h m ko to T) : RfU mX8_back (d + 10) [.ref m] h m ko to (s_back T).1 (s_back T).2 := by
  have hS0 := hS
  obtain ⟨hT, hM, hB, hTp, hr, hsf, hK, ht⟩ := hS
  unfold s_back
  match ko, hK, hS0, ht with
  | none, ⟨q1, q2⟩, hS0, ht =>
    rw [q2, if_neg (by decide)]
    exact muR (k := 3) (by omega) hS0 (fun h1 r e => jm mi_X8_back (Nat.le_of_ble_eq_true rfl) ⟨.int, rfl, rfl⟩ rfl (k_X8_back_0 hM.g (fun _ => k_X8_back_7 r (Or.inl e) hM.g) (fun i z => absurd (q1.symm.trans z) (fun y => by cases y))))
  | some k, ⟨q1, q2, q3, q4, q5⟩, hS0, ht =>
    rw [q2, if_pos rfl]
    obtain ⟨h3, a1, a2, a3⟩ := u_takeFrom (d := d + 8) (m := m) (k := k) (Or.inl q5) hM q3 q4
    have n8 := a3.n8
    have P8 := hB.n8
    obtain ⟨h1, b1, b2, b3⟩ := v_back (d := d) (m := m) (n := T.2.1.2.1.length) (F := T.2.2.1) n8 (fun s hs p hp => by have := hT.2.2 s hs p hp; omega) _ 0 h3 rfl (by omega) (hM.keep a2) a3.n (fun s hs => by
      rw [if_neg (by omega)]
      exact (hsf s hs).of (fun i k q => a2.ii (by unfold fV; omega)) a2.2.2.2.2.1)
    have U : Upf (fun i k => fV m i k ∨ i = m + 1) h h1 := (a2.mono (fun i k q => Or.inl q)).tr (b2.mono (fun i k q => Or.inr q))
    refine ⟨h1, jm mi_X8_back (Nat.le_of_ble_eq_true rfl) ⟨.int, rfl, rfl⟩ rfl (k_X8_back_0 hM.g (fun z => absurd z (by rw [q1]; exact fun y => by cases y)) (fun i _ => k_X8_back_15 hM.g (by rw [q1]; exact a1) (Or.inl a2.1) b1)), U.mono (fun i k q => by unfold fV at q; unfold fM; omega), ⟨hT.2.1, hT.2.1, fun s hs p hp => ?_⟩, hM.keep U, a3.keep b2 (fun i k q => by unfold fV at q; omega), hTp.of (fun i k q => U.ii (by unfold fV; omega)), fun i hi => ?_, b3, ⟨(U.rr m 22).trans q1, q2, q3.keep U, q4.keep U (fun i j q => by unfold fV at q ⊢; omega), q5⟩, ht.of U⟩
    · have hp : bckF T.2.1.2.1.length (T.2.2.1 s) = some (.inl p) := hp
      generalize T.2.2.1 s = q at hp
      match q, hp with
      | some (.inl p'), hp =>
        have hp : (if p' < T.2.1.2.1.length then some (.inl p') else none) = some (Sum.inl p) := hp
        split at hp
        · rename_i hl; cases hp; exact hl
        · cases hp
    · rw [U.ii (by unfold fV; omega)]; exact hr i hi
end MN
