/-! people join, are changed, are copied -/
theorem le5 {k : Nat} (h : k ≤ 5) : k = 0 ∨ k = 1 ∨ k = 2 ∨ k = 3 ∨ k = 4 ∨ k = 5 := by omega
section CR
variable {d : Nat} {h : PH} {c f : Nat} {P : List Pers}
theorem t_massBy {q : Pers} (hq : okP q) : JMt mX0_massBy (some .int) d [.int (nI q.1), .int (nI q.2.1), .int (nI q.2.2.1)] h (some (.int (nI (massP q)))) h := by
  obtain ⟨k, a, w, s, n⟩ := q
  obtain ⟨h1, h2, h3, h4, h5⟩ := hq
  dsimp only at *
  have e2 : ∀ x, x < 2 ^ 31 → nI x / (2 : Int32) = nI (x / 2) := fun x hx => by rw [show (2 : Int32) = nI 2 from rfl, pk_div hx (by omega) (by omega)]
  rcases le5 h1 with rfl | rfl | rfl | rfl | rfl | rfl
  · exact jm mi_X0_massBy (Nat.le_of_ble_eq_true rfl) ⟨.int, rfl, rfl⟩ rfl (k_X0_massBy_0 (fun _ => k_X0_massBy_50) (fun q => absurd q (by decide)) (fun q => absurd q (by decide)) (fun q => absurd q (by decide)) (fun q => absurd q (by decide)) (fun q => absurd q (by decide)))
  · exact jm mi_X0_massBy (Nat.le_of_ble_eq_true rfl) ⟨.int, rfl, rfl⟩ rfl (k_X0_massBy_0 (fun q => absurd q (by decide)) (fun _ => (by have := k_X0_massBy_36 (d := d) (h := h) (a0 := nI 1) (a1 := nI a) (a2 := nI w); rw [nI_add] at this; exact this)) (fun q => absurd q (by decide)) (fun q => absurd q (by decide)) (fun q => absurd q (by decide)) (fun q => absurd q (by decide)))
  · exact jm mi_X0_massBy (Nat.le_of_ble_eq_true rfl) ⟨.int, rfl, rfl⟩ rfl (k_X0_massBy_0 (fun q => absurd q (by decide)) (fun q => absurd q (by decide)) (fun _ => k_X0_massBy_50) (fun q => absurd q (by decide)) (fun q => absurd q (by decide)) (fun q => absurd q (by decide)))
  · exact jm mi_X0_massBy (Nat.le_of_ble_eq_true rfl) ⟨.int, rfl, rfl⟩ rfl (k_X0_massBy_0 (fun q => absurd q (by decide)) (fun q => absurd q (by decide)) (fun q => absurd q (by decide)) (fun _ => (by have := k_X0_massBy_40 (d := d) (h := h) (a0 := nI 3) (a1 := nI a) (a2 := nI w) (by decide); rw [nI_add, e2 _ (by omega)] at this; exact this)) (fun q => absurd q (by decide)) (fun q => absurd q (by decide)))
  · exact jm mi_X0_massBy (Nat.le_of_ble_eq_true rfl) ⟨.int, rfl, rfl⟩ rfl (k_X0_massBy_0 (fun q => absurd q (by decide)) (fun q => absurd q (by decide)) (fun q => absurd q (by decide)) (fun q => absurd q (by decide)) (fun _ => k_X0_massBy_50) (fun q => absurd q (by decide)))
  · exact jm mi_X0_massBy (Nat.le_of_ble_eq_true rfl) ⟨.int, rfl, rfl⟩ rfl (k_X0_massBy_0 (fun q => absurd q (by decide)) (fun q => absurd q (by decide)) (fun q => absurd q (by decide)) (fun q => absurd q (by decide)) (fun q => absurd q (by decide)) (fun _ => (by have := k_X0_massBy_46 (d := d) (h := h) (a0 := nI 5) (a1 := nI a) (a2 := nI w) (by decide); rw [e2 _ (by omega)] at this; exact this)))
theorem t_bearsBy {q : Pers} (hq : okP q) : JMt mX0_bearsBy (some .int) (d + 1) [.int (nI q.1), .int (nI q.2.1), .int (nI q.2.2.2.1)] h (some (.int (nI (bearP q)))) h := by
  obtain ⟨k, a, w, s, n⟩ := q
  obtain ⟨h1, h2, h3, h4, h5⟩ := hq
  dsimp only at *
  have e2 : ∀ x, x < 2 ^ 31 → nI x / (2 : Int32) = nI (x / 2) := fun x hx => by rw [show (2 : Int32) = nI 2 from rfl, pk_div hx (by omega) (by omega)]
  have em : (if (0 : Int32) < nI s - nI a then nI s - nI a else (0 : Int32)) = nI (s - a) := by
    rcases Nat.lt_or_ge a s with z | z
    · rw [pk_sub (by omega)]
      exact if_pos (nI_lt (a := 0) (b := s - a) (by omega) (by omega))
    · rw [if_neg, show s - a = 0 by omega]; rfl
      rw [nI_nsub, show (0 : Int32) = sI 0 from rfl, sI_lt (by omega) (by omega) (by omega) (by omega)]
      omega
  rcases le5 h1 with rfl | rfl | rfl | rfl | rfl | rfl
  · exact jm mi_X0_bearsBy (Nat.le_of_ble_eq_true rfl) ⟨.int, rfl, rfl⟩ rfl (k_X0_bearsBy_0 (fun _ => k_X0_bearsBy_58) (fun q => absurd q (by decide)) (fun q => absurd q (by decide)) (fun q => absurd q (by decide)) (fun q => absurd q (by decide)) (fun q => absurd q (by decide)))
  · exact jm mi_X0_bearsBy (Nat.le_of_ble_eq_true rfl) ⟨.int, rfl, rfl⟩ rfl (k_X0_bearsBy_0 (fun q => absurd q (by decide)) (fun _ => (by have := k_X0_bearsBy_36 (d := d) (h := h) (a0 := nI 1) (a1 := nI a) (a2 := nI s); rw [em] at this; exact this)) (fun q => absurd q (by decide)) (fun q => absurd q (by decide)) (fun q => absurd q (by decide)) (fun q => absurd q (by decide)))
  · exact jm mi_X0_bearsBy (Nat.le_of_ble_eq_true rfl) ⟨.int, rfl, rfl⟩ rfl (k_X0_bearsBy_0 (fun q => absurd q (by decide)) (fun q => absurd q (by decide)) (fun _ => (by have := k_X0_bearsBy_44 (d := d + 1) (h := h) (a0 := nI 2) (a1 := nI a) (a2 := nI s); rw [nI_add] at this; exact this)) (fun q => absurd q (by decide)) (fun q => absurd q (by decide)) (fun q => absurd q (by decide)))
  · exact jm mi_X0_bearsBy (Nat.le_of_ble_eq_true rfl) ⟨.int, rfl, rfl⟩ rfl (k_X0_bearsBy_0 (fun q => absurd q (by decide)) (fun q => absurd q (by decide)) (fun q => absurd q (by decide)) (fun _ => (by have := k_X0_bearsBy_36 (d := d) (h := h) (a0 := nI 3) (a1 := nI a) (a2 := nI s); rw [em] at this; exact this)) (fun q => absurd q (by decide)) (fun q => absurd q (by decide)))
  · exact jm mi_X0_bearsBy (Nat.le_of_ble_eq_true rfl) ⟨.int, rfl, rfl⟩ rfl (k_X0_bearsBy_0 (fun q => absurd q (by decide)) (fun q => absurd q (by decide)) (fun q => absurd q (by decide)) (fun q => absurd q (by decide)) (fun _ => (by have := k_X0_bearsBy_48 (d := d + 1) (h := h) (a0 := nI 4) (a1 := nI a) (a2 := nI s); rw [nI_add, show (2 : Int32) = nI 2 from rfl, pk_mul] at this; exact this)) (fun q => absurd q (by decide)))
  · exact jm mi_X0_bearsBy (Nat.le_of_ble_eq_true rfl) ⟨.int, rfl, rfl⟩ rfl (k_X0_bearsBy_0 (fun q => absurd q (by decide)) (fun q => absurd q (by decide)) (fun q => absurd q (by decide)) (fun q => absurd q (by decide)) (fun q => absurd q (by decide)) (fun _ => (by have := k_X0_bearsBy_54 (d := d + 1) (h := h) (a0 := nI 5) (a1 := nI a) (a2 := nI s) (by decide); rw [e2 _ (by omega)] at this; exact this)))
theorem t_tallnessBy {q : Pers} (hq : okP q) : JMt mX0_tallnessBy (some .int) d [.int (nI q.1), .int (nI q.2.1)] h (some (.int (nI (tallP q)))) h := by
  obtain ⟨k, a, w, s, n⟩ := q
  obtain ⟨h1, h2, h3, h4, h5⟩ := hq
  dsimp only at *
  have e3 : (3 : Int32) + nI a / (3 : Int32) = nI (3 + a / 3) := by rw [show (3 : Int32) = nI 3 from rfl, pk_div (by omega) (by omega) (by omega), nI_add]
  rcases le5 h1 with rfl | rfl | rfl | rfl | rfl | rfl
  · exact jm mi_X0_tallnessBy (Nat.le_of_ble_eq_true rfl) ⟨.int, rfl, rfl⟩ rfl (k_X0_tallnessBy_0 (fun _ => k_X0_tallnessBy_46) (fun q => absurd q (by decide)) (fun q => absurd q (by decide)) (fun q => absurd q (by decide)) (fun q => absurd q (by decide)) (fun q => absurd q (by decide)))
  · exact jm mi_X0_tallnessBy (Nat.le_of_ble_eq_true rfl) ⟨.int, rfl, rfl⟩ rfl (k_X0_tallnessBy_0 (fun q => absurd q (by decide)) (fun _ => k_X0_tallnessBy_36) (fun q => absurd q (by decide)) (fun q => absurd q (by decide)) (fun q => absurd q (by decide)) (fun q => absurd q (by decide)))
  · exact jm mi_X0_tallnessBy (Nat.le_of_ble_eq_true rfl) ⟨.int, rfl, rfl⟩ rfl (k_X0_tallnessBy_0 (fun q => absurd q (by decide)) (fun q => absurd q (by decide)) (fun _ => k_X0_tallnessBy_46) (fun q => absurd q (by decide)) (fun q => absurd q (by decide)) (fun q => absurd q (by decide)))
  · exact jm mi_X0_tallnessBy (Nat.le_of_ble_eq_true rfl) ⟨.int, rfl, rfl⟩ rfl (k_X0_tallnessBy_0 (fun q => absurd q (by decide)) (fun q => absurd q (by decide)) (fun q => absurd q (by decide)) (fun _ => (by have := k_X0_tallnessBy_38 (d := d) (h := h) (a0 := nI 3) (a1 := nI a) (by decide); rw [e3] at this; exact this)) (fun q => absurd q (by decide)) (fun q => absurd q (by decide)))
  · exact jm mi_X0_tallnessBy (Nat.le_of_ble_eq_true rfl) ⟨.int, rfl, rfl⟩ rfl (k_X0_tallnessBy_0 (fun q => absurd q (by decide)) (fun q => absurd q (by decide)) (fun q => absurd q (by decide)) (fun q => absurd q (by decide)) (fun _ => k_X0_tallnessBy_46) (fun q => absurd q (by decide)))
  · exact jm mi_X0_tallnessBy (Nat.le_of_ble_eq_true rfl) ⟨.int, rfl, rfl⟩ rfl (k_X0_tallnessBy_0 (fun q => absurd q (by decide)) (fun q => absurd q (by decide)) (fun q => absurd q (by decide)) (fun q => absurd q (by decide)) (fun q => absurd q (by decide)) (fun _ => k_X0_tallnessBy_44))
theorem ix8 (p w : Nat) : nI p * (8 : Int32) + nI w = nI (8 * p + w) := by rw [show (8 : Int32) = nI 8 from rfl, pk_mul, nI_add, Nat.mul_comm]
/-- the three facts that come of the others are laid -/
def measH (h : PH) (f p : Nat) (q : Pers) : PH := setI (setI (setI h f (8 * p + 5) (nI (massP q))) f (8 * p + 6) (nI (bearP q))) f (8 * p + 7) (nI (tallP q))
theorem t_measure {p : Nat} {q : Pers} (g1 : hG h c = (0, 2)) (g2 : hR h c 0 = some f) (g3 : hG h f = (20, 64)) (hp : p < 8) (hq : okP q) (hf : ∀ w, w < 5 → hI h f (8 * p + w) = nI (factP q w)) : JMt mX0_measure none (d + 2) [.ref c, .int (nI p)] h none (measH h f p q) := by
  have b : ∀ w, w < 8 → 8 * p + w < 64 := fun w hw => by omega
  have n0 := hf 0 (by omega)
  have n1 := hf 1 (by omega)
  have n2 := hf 2 (by omega)
  have n3 := hf 3 (by omega)
  have c0 : JMt mX7_pick (some .int) (d + 1) [.ref f, .int (nI p * (8 : Int32) + (0 : Int32))] h (some (.int (nI q.1))) h := by rw [show (0 : Int32) = nI 0 from rfl, ix8, show nI q.1 = hI h f (8 * p + 0) from n0.symm]; exact t_pick g3 (by omega) (b 0 (by omega))
  have c1 : JMt mX7_pick (some .int) (d + 1) [.ref f, .int (nI p * (8 : Int32) + (1 : Int32))] h (some (.int (nI q.2.1))) h := by rw [show (1 : Int32) = nI 1 from rfl, ix8, show nI q.2.1 = hI h f (8 * p + 1) from n1.symm]; exact t_pick g3 (by omega) (b 1 (by omega))
  have c2 : JMt mX7_pick (some .int) (d + 1) [.ref f, .int (nI p * (8 : Int32) + (2 : Int32))] h (some (.int (nI q.2.2.1))) h := by rw [show (2 : Int32) = nI 2 from rfl, ix8, show nI q.2.2.1 = hI h f (8 * p + 2) from n2.symm]; exact t_pick g3 (by omega) (b 2 (by omega))
  have c3 : JMt mX7_pick (some .int) (d + 1) [.ref f, .int (nI p * (8 : Int32) + (3 : Int32))] (setI h f (8 * p + 5) (nI (massP q))) (some (.int (nI q.2.2.2.1))) (setI h f (8 * p + 5) (nI (massP q))) := by
    rw [show (3 : Int32) = nI 3 from rfl, ix8]
    have e : nI q.2.2.2.1 = hI (setI h f (8 * p + 5) (nI (massP q))) f (8 * p + 3) := by rw [hI_setI, if_neg (fun z => by omega)]; exact n3.symm
    rw [e]
    exact t_pick (h := setI h f (8 * p + 5) (nI (massP q))) g3 (by omega) (b 3 (by omega))
  have p5 : JMt mX7_put none (d + 1) [.ref f, .int (nI p * (8 : Int32) + (5 : Int32)), .int (nI (massP q))] h none (setI h f (8 * p + 5) (nI (massP q))) := by rw [show (5 : Int32) = nI 5 from rfl, ix8]; exact t_put g3 (by omega) (b 5 (by omega))
  have p6 : JMt mX7_put none (d + 1) [.ref f, .int (nI p * (8 : Int32) + (6 : Int32)), .int (nI (bearP q))] (setI h f (8 * p + 5) (nI (massP q))) none (setI (setI h f (8 * p + 5) (nI (massP q))) f (8 * p + 6) (nI (bearP q))) := by rw [show (6 : Int32) = nI 6 from rfl, ix8]; exact t_put (h := setI h f (8 * p + 5) (nI (massP q))) g3 (by omega) (b 6 (by omega))
  have p7 : JMt mX7_put none (d + 1) [.ref f, .int (nI p * (8 : Int32) + (7 : Int32)), .int (nI (tallP q))] (setI (setI h f (8 * p + 5) (nI (massP q))) f (8 * p + 6) (nI (bearP q))) none (measH h f p q) := by rw [show (7 : Int32) = nI 7 from rfl, ix8]; exact t_put (h := setI (setI h f (8 * p + 5) (nI (massP q))) f (8 * p + 6) (nI (bearP q))) g3 (by omega) (b 7 (by omega))
  exact jm mi_X0_measure (Nat.le_of_ble_eq_true rfl) rfl rfl (k_X0_measure_0 g1 g2 c0 (Or.inl rfl) g1 g2 c1 (Or.inl rfl) g1 g2 c2 (Or.inl rfl) (t_massBy hq) (Or.inl rfl) p5 (Or.inl rfl) g1 g2 c3 (Or.inl rfl) (t_bearsBy hq) (Or.inl rfl) p6 (Or.inl rfl) g1 g2 (t_tallnessBy hq) (Or.inl rfl) p7 (Or.inl rfl))
theorem measH_get {p : Nat} {q : Pers} {x w : Nat} (hw : w < 8) (hf : ∀ w, w < 5 → hI h f (8 * p + w) = nI (factP q w)) : hI (measH h f p q) f (8 * x + w) = if x = p then nI (factP q w) else hI h f (8 * x + w) := by
  unfold measH
  rw [hI_setI, hI_setI, hI_setI]
  by_cases hx : x = p
  · subst hx
    rw [if_pos rfl]
    have : w = 0 ∨ w = 1 ∨ w = 2 ∨ w = 3 ∨ w = 4 ∨ w = 5 ∨ w = 6 ∨ w = 7 := by omega
    rcases this with rfl | rfl | rfl | rfl | rfl | rfl | rfl | rfl
    · rw [if_neg (fun z => by omega), if_neg (fun z => by omega), if_neg (fun z => by omega)]; exact hf 0 (by omega)
    · rw [if_neg (fun z => by omega), if_neg (fun z => by omega), if_neg (fun z => by omega)]; exact hf 1 (by omega)
    · rw [if_neg (fun z => by omega), if_neg (fun z => by omega), if_neg (fun z => by omega)]; exact hf 2 (by omega)
    · rw [if_neg (fun z => by omega), if_neg (fun z => by omega), if_neg (fun z => by omega)]; exact hf 3 (by omega)
    · rw [if_neg (fun z => by omega), if_neg (fun z => by omega), if_neg (fun z => by omega)]; exact hf 4 (by omega)
    · rw [if_neg (fun z => by omega), if_neg (fun z => by omega), if_pos ⟨rfl, rfl⟩]; rfl
    · rw [if_neg (fun z => by omega), if_pos ⟨rfl, rfl⟩]; rfl
    · rw [if_pos ⟨rfl, rfl⟩]; rfl
  · rw [if_neg hx, if_neg (fun z => by omega), if_neg (fun z => by omega), if_neg (fun z => by omega)]
theorem Upd.meas {S : Nat → Prop} {p : Nat} {q : Pers} (hf : S f) : Upd S h (measH h f p q) := ((Upd.set hf).tr (Upd.set hf)).tr (Upd.set hf)
def pc1 (c f : Nat) : Nat → Prop := fun i => i = c ∨ i = f
theorem pg_snoc {q : Pers} {x : Nat} : pg (P ++ [q]) x = if x < P.length then pg P x else if x = P.length then q else P0 := by
  unfold pg
  simp only [List.getD_eq_getElem?_getD]
  by_cases h1 : x < P.length
  · rw [if_pos h1, List.getElem?_append_left h1]
  · rw [if_neg h1, List.getElem?_append_right (by omega)]
    by_cases h2 : x = P.length
    · rw [if_pos h2, h2, Nat.sub_self]; rfl
    · rw [if_neg h2, show x - P.length = (x - P.length - 1) + 1 by omega]; rfl
theorem crowd_ne (hC : CrowdS h c f P) : c ≠ f := fun e => by
  have h1 := hC.1
  have h2 := hC.2.2.1
  rw [e, h2] at h1
  cases h1
theorem t_join {q : Pers} (hC : CrowdS h c f P) (hl : P.length < 8) (hq : okP q) : ∃ h', JMt mX0_join (some .int) (d + 3) [.ref c, .int (nI q.1), .int (nI q.2.1), .int (nI q.2.2.1), .int (nI q.2.2.2.1), .int (nI q.2.2.2.2)] h (some (.int (nI P.length))) h' ∧ Upd (pc1 c f) h h' ∧ CrowdS h' c f (P ++ [q]) := by
  have hcf := crowd_ne hC
  have hC0 := hC
  obtain ⟨c1, c2, c3, c4, c5, c6, c7⟩ := hC
  have b : ∀ w, w < 8 → 8 * P.length + w < 64 := fun w hw => by omega
  have key : ∀ (h0 : PH) (w : Nat) (v : Int32) (z : Int32), hG h0 f = (20, 64) → w < 8 → z = nI w → JMt mX7_put none (d + 2) [.ref f, .int (hI h c 1 * (8 : Int32) + z), .int v] h0 none (setI h0 f (8 * P.length + w) v) := fun h0 w v z g hw hz => by
    rw [c4, hz, ix8]; exact t_put g (by omega) (b w hw)
  generalize hh0 : setI h c 1 (hI h c 1 + (1 : Int32)) = h0
  have g0 : hG h0 = hG h := by rw [← hh0]; rfl
  have r0 : hR h0 = hR h := by rw [← hh0]; rfl
  generalize hh5 : setI (setI (setI (setI (setI h0 f (8 * P.length + 0) (nI q.1)) f (8 * P.length + 1) (nI q.2.1)) f (8 * P.length + 2) (nI q.2.2.1)) f (8 * P.length + 3) (nI q.2.2.2.1)) f (8 * P.length + 4) (nI q.2.2.2.2) = h5
  have g5 : hG h5 = hG h := by rw [← hh5]; exact g0
  have r5 : hR h5 = hR h := by rw [← hh5]; exact r0
  have U5 : Upd (pc1 c f) h h5 := by
    rw [← hh5, ← hh0]
    exact (((((Upd.set (Or.inl rfl)).tr (Upd.set (Or.inr rfl))).tr (Upd.set (Or.inr rfl))).tr (Upd.set (Or.inr rfl))).tr (Upd.set (Or.inr rfl))).tr (Upd.set (Or.inr rfl))
  have f5 : ∀ w, w < 5 → hI h5 f (8 * P.length + w) = nI (factP q w) := fun w hw => by
    rw [← hh5, hI_setI, hI_setI, hI_setI, hI_setI, hI_setI]
    have : w = 0 ∨ w = 1 ∨ w = 2 ∨ w = 3 ∨ w = 4 := by omega
    rcases this with rfl | rfl | rfl | rfl | rfl
    · rw [if_neg (fun z => by omega), if_neg (fun z => by omega), if_neg (fun z => by omega), if_neg (fun z => by omega), if_pos ⟨rfl, rfl⟩]; rfl
    · rw [if_neg (fun z => by omega), if_neg (fun z => by omega), if_neg (fun z => by omega), if_pos ⟨rfl, rfl⟩]; rfl
    · rw [if_neg (fun z => by omega), if_neg (fun z => by omega), if_pos ⟨rfl, rfl⟩]; rfl
    · rw [if_neg (fun z => by omega), if_pos ⟨rfl, rfl⟩]; rfl
    · rw [if_pos ⟨rfl, rfl⟩]; rfl
  have o5 : ∀ x, x < P.length → ∀ w, w < 8 → hI h5 f (8 * x + w) = hI h f (8 * x + w) := fun x hx w hw => by
    rw [← hh5, hI_setI, if_neg (fun z => by omega), hI_setI, if_neg (fun z => by omega), hI_setI, if_neg (fun z => by omega), hI_setI, if_neg (fun z => by omega), hI_setI, if_neg (fun z => by omega), ← hh0, hI_setI, if_neg (fun z => hcf z.1.symm)]
  have n5 : hI h5 c 1 = nI (P.length + 1) := by
    rw [← hh5, hI_setI, if_neg (fun z => hcf z.1), hI_setI, if_neg (fun z => hcf z.1), hI_setI, if_neg (fun z => hcf z.1), hI_setI, if_neg (fun z => hcf z.1), hI_setI, if_neg (fun z => hcf z.1), ← hh0, hI_setI, if_pos ⟨rfl, rfl⟩, c4, nI_1]
  have gf : hG h0 f = (20, 64) := by rw [g0]; exact c3
  have gc : hG h0 c = (0, 2) := by rw [g0]; exact c1
  have rc : hR h0 c 0 = some f := by rw [r0]; exact c2
  have hm : JMt mX0_measure none (d + 2) [.ref c, .int (hI h c 1)] h5 none (measH h5 f P.length q) := by rw [c4]; exact t_measure (by rw [g5]; exact c1) (by rw [r5]; exact c2) (by rw [g5]; exact c3) hl hq f5
  have k1 := key h0 0 (nI q.1) 0 gf (by omega) rfl
  have k2 := key (setI h0 f (8 * P.length + 0) (nI q.1)) 1 (nI q.2.1) 1 gf (by omega) rfl
  have k3 := key (setI (setI h0 f (8 * P.length + 0) (nI q.1)) f (8 * P.length + 1) (nI q.2.1)) 2 (nI q.2.2.1) 2 gf (by omega) rfl
  have k4 := key (setI (setI (setI h0 f (8 * P.length + 0) (nI q.1)) f (8 * P.length + 1) (nI q.2.1)) f (8 * P.length + 2) (nI q.2.2.1)) 3 (nI q.2.2.2.1) 3 gf (by omega) rfl
  have k5 := key (setI (setI (setI (setI h0 f (8 * P.length + 0) (nI q.1)) f (8 * P.length + 1) (nI q.2.1)) f (8 * P.length + 2) (nI q.2.2.1)) f (8 * P.length + 3) (nI q.2.2.2.1)) 4 (nI q.2.2.2.2) 4 gf (by omega) rfl
  rw [hh5] at k5
  have hn5 : hn h5 = hn h0 := by rw [← hh5]; rfl
  have hj : J mX0_join (d + 3) 9 [some (.ref c), some (.int (nI q.1)), some (.int (nI q.2.1)), some (.int (nI q.2.2.1)), some (.int (nI q.2.2.2.1)), some (.int (nI q.2.2.2.2)), none, none] [] h (some (.int (hI h c 1))) (measH h5 f P.length q) := by
    refine k_X0_join_9 (d := d + 2) (h5 := setI h0 f (8 * P.length + 0) (nI q.1)) c1 c2 (by rw [hh0]; exact k1) (Or.inl (by rw [hh0]; rfl)) gc rc k2 (Or.inl rfl) gc rc k3 (Or.inl rfl) gc rc k4 (Or.inl rfl) gc rc k5 (Or.inl hn5) hm (Or.inl rfl) (by rw [g5]; exact c1)
  rw [c4] at hj
  have hfull : JMt mX0_isFull (some .boolean) (d + 2) [.ref c] h (some (.int 0)) h := by
    have := t_isFull (d := d + 2) hC0
    rw [if_pos hl] at this
    exact this
  refine ⟨measH h5 f P.length q, jm mi_X0_join (Nat.le_of_ble_eq_true rfl) ⟨.int, rfl, rfl⟩ rfl (k_X0_join_0 hfull (Or.inl rfl) c1 (fun _ => hj) (fun q => absurd rfl q)), U5.tr (Upd.meas (Or.inr rfl)), ?_, ?_, ?_, ?_, ?_, fun x hx w hw => ?_, fun y hy => ?_⟩
  · show hG h5 c = _; rw [g5]; exact c1
  · show hR h5 c 0 = _; rw [r5]; exact c2
  · show hG h5 f = _; rw [g5]; exact c3
  · rw [List.length_append]
    show hI (measH h5 f P.length q) c 1 = nI (P.length + 1)
    unfold measH
    rw [hI_setI, if_neg (fun z => hcf z.1), hI_setI, if_neg (fun z => hcf z.1), hI_setI, if_neg (fun z => hcf z.1)]
    exact n5
  · rw [List.length_append]; show P.length + 1 ≤ 8; omega
  · rw [List.length_append] at hx
    have hx : x < P.length + 1 := hx
    rw [measH_get hw f5, pg_snoc]
    by_cases h1 : x = P.length
    · rw [if_pos h1, if_neg (by omega), if_pos h1]
    · rw [if_neg h1, if_pos (by omega), o5 x (by omega) w hw]
      exact c6 x (by omega) w hw
  · rcases List.mem_append.mp hy with z | z
    · exact c7 y z
    · rw [List.mem_singleton.mp z]; exact hq
theorem t_fondness {x y : Nat} (hC : CrowdS h c f P) (hx : x < P.length) (hy : y < P.length) : JMt mX0_fondness (some .int) (d + 1) [.ref c, .int (nI x), .int (nI y)] h (some (.int (nI (10 - ((pg P x).2.1 - (pg P y).2.1 + ((pg P y).2.1 - (pg P x).2.1)))))) h := by
  have a1 := (pg_ok hC.2.2.2.2.2.2 x).2.1
  have a2 := (pg_ok hC.2.2.2.2.2.2 y).2.1
  have := k_X0_fondness_0 (d := d) (a1 := nI x) (a2 := nI y) (t_fact (w := 1) hC hx (by omega)) (Or.inl rfl) hC.1 (t_fact (w := 1) hC hy (by omega)) (Or.inl rfl) hC.1
  have e1 : factP (pg P x) 1 = (pg P x).2.1 := rfl
  have e2 : factP (pg P y) 1 = (pg P y).2.1 := rfl
  rw [e1, e2] at this
  have key : (10 : Int32) - (if 0 ≤ nI (pg P x).2.1 - nI (pg P y).2.1 then nI (pg P x).2.1 - nI (pg P y).2.1 else 0 - (nI (pg P x).2.1 - nI (pg P y).2.1)) = nI (10 - ((pg P x).2.1 - (pg P y).2.1 + ((pg P y).2.1 - (pg P x).2.1))) := by
    have hz : (0 : Int32) ≤ nI (pg P x).2.1 - nI (pg P y).2.1 ↔ (0 : Int) ≤ ((pg P x).2.1 : Int) - ((pg P y).2.1 : Int) := by rw [nI_nsub, show (0 : Int32) = sI 0 from rfl, sI_le (by omega) (by omega) (by omega) (by omega)]
    by_cases z : (0 : Int) ≤ ((pg P x).2.1 : Int) - ((pg P y).2.1 : Int)
    · rw [if_pos (hz.mpr z), nI_nsub, show (10 : Int32) = sI 10 from rfl, nI_sI, sI_sub]; congr 1; omega
    · rw [if_neg (fun y => z (hz.mp y)), nI_nsub, show (10 : Int32) = sI 10 from rfl, show (0 : Int32) = sI 0 from rfl, nI_sI, sI_sub, sI_sub]; congr 1; omega
  rw [key] at this
  exact jm mi_X0_fondness (Nat.le_of_ble_eq_true rfl) ⟨.int, rfl, rfl⟩ rfl this
theorem t_crowdTake {b g : Nat} {K : List Pers} (hC : CrowdS h c f P) (hB : CrowdS h b g K) (hfg : f ≠ g) (hcb : c ≠ b) : ∃ h', JMt mX0_takeFrom none (d + 1) [.ref c, .ref b] h none h' ∧ Upd (pc1 c f) h h' ∧ CrowdS h' c f K := by
  have hcf := crowd_ne hC
  obtain ⟨c1, c2, c3, c4, c5, c6, c7⟩ := hC
  obtain ⟨b1, b2, b3, b4, b5, b6, b7⟩ := hB
  have hbf : b ≠ f := fun z => by rw [z, c3] at b1; cases b1
  obtain ⟨h1, hM, hU, hc⟩ := t_copyAll (d := d) (h := h) (fun z => hfg z.symm) (by omega) b3 c3
  refine ⟨_, jm mi_X0_takeFrom (Nat.le_of_ble_eq_true rfl) rfl rfl (k_X0_takeFrom_0 b1 b2 c1 c2 hM (Or.inl hU.1) (by rw [hU.gg]; exact b1) (by rw [hU.gg]; exact c1)), (hU.mono (fun i z => Or.inr z)).tr (Upd.set (Or.inl rfl)), ?_⟩
  have eb : hI h1 b = hI h b := hU.2.2.2.2.2 b hbf
  refine ⟨by rw [hG_setI, hU.gg]; exact c1, by rw [hR_setI, hU.rr]; exact c2, by rw [hG_setI, hU.gg]; exact c3, ?_, b5, fun p hp w hw => ?_, b7⟩
  · rw [hI_setI, if_pos ⟨rfl, rfl⟩, eb, b4]
  · rw [hI_setI, if_neg (fun z => hcf z.1.symm), hc _ (by omega), b6 p hp w hw]
end CR
