/-! the reference: a world is taken of another -/
section TK
variable {d : Nat} {h : PH} {m k : Nat} {σ : WS}
theorem v_copied {a b : Nat} (hab : a ≠ b) : ∀ n j (h : PH), 8 - j = n → j ≤ 8 → hG h a = (20, 8) → hG h b = (20, 8) →
    ∃ h1, J mX8_copied d 2 [some (.ref a), some (.ref b), some (.int (nI j))] [] h none h1 ∧ Upf (fun i _ => i = b) h h1 ∧ (∀ i, j ≤ i → i < 8 → hI h1 b i = hI h a i) ∧ ∀ i, i < j → hI h1 b i = hI h b i := by
  intro n
  induction n with
  | zero =>
    intro j h hn hj ha hb
    have : j = 8 := by omega
    subst this
    exact ⟨h, k_X8_copied_2 ha (fun _ => k_X8_copied_20) (fun z => absurd (Int32.le_refl _) z), Upf.rf, fun i h1 h2 => by omega, fun _ _ => rfl⟩
  | succ n ih =>
    intro j h hn hj ha hb
    have hjl : j < 8 := by omega
    have cj : (nI j).toNatClampNeg = j := nI_clamp (by omega)
    have U : Upf (fun i _ => i = b) h (setI h b (nI j).toNatClampNeg (hI h a (nI j).toNatClampNeg)) := Upf.set rfl
    obtain ⟨h1, b1, b2, b3, b4⟩ := ih (j + 1) (setI h b (nI j).toNatClampNeg (hI h a (nI j).toNatClampNeg)) (by omega) (by omega) (by rw [U.gg]; exact ha) (by rw [U.gg]; exact hb)
    refine ⟨h1, k_X8_copied_2 ha (fun z => absurd z (nI_ge (b := 8) hjl (by omega))) (fun _ => k_X8_copied_8 ha (vp_in_nI (by omega) (by omega)) hb (vp_in_nI (by omega) (by omega)) ?_), U.tr b2, fun i h1 h2 => ?_, fun i h1 => ?_⟩
    · rw [nI_1]; exact b1
    · by_cases e : i = j
      · subst e
        rw [b4 i (by omega), cj, hI_setI, if_pos ⟨rfl, rfl⟩]
      · rw [b3 i (by omega) h2, hI_setI, if_neg (fun z => hab z.1)]
    · rw [b4 i (by omega), cj, hI_setI, if_neg (by omega)]
theorem u_copied {a b : Nat} (hab : a ≠ b) (ha : hG h a = (20, 8)) (hb : hG h b = (20, 8)) : ∃ h1, JMt mX8_copied none d [.ref a, .ref b] h none h1 ∧ Upf (fun i _ => i = b) h h1 ∧ ∀ i, i < 8 → hI h1 b i = hI h a i := by
  obtain ⟨h1, b1, b2, b3, b4⟩ := v_copied (d := d) hab _ 0 h rfl (by omega) ha hb
  exact ⟨h1, jm mi_X8_copied (Nat.le_of_ble_eq_true rfl) rfl rfl (k_X8_copied_0 b1), b2, fun i hi => b3 i (Nat.zero_le _) hi⟩
theorem u_takeFrom (hd : m + 285 ≤ k ∨ k + 285 ≤ m) (hM : ModH h m) (hK : ModH h k) (hB : MB h k σ) : ∃ h1, JMt mX8_takeFrom none (d + 1) [.ref m, .ref k] h none h1 ∧ Upf (fV m) h h1 ∧ MB h1 m σ := by
  have hne : ¬ k = m := by omega
  have e : ∀ (h : PH) (a : Nat) (v : Int32) (b : Nat), hI (setI h m a v) k b = hI h k b := fun h a v b => by rw [hI_setI, if_neg (fun z => hne z.1)]
  generalize hz : setI (setI (setI (setI (setI h m 9 (hI h k 9)) m 10 (hI h k 10)) m 11 (hI h k 11)) m 12 (hI h k 12)) m 13 (hI h k 13) = h5
  have U5 : Upf (fV m) h h5 := by rw [← hz]; exact ((((Upf.set (by unfold fV; omega)).st (by unfold fV; omega)).st (by unfold fV; omega)).st (by unfold fV; omega)).st (by unfold fV; omega)
  have q9 : hI h5 m 9 = hI h k 9 := by rw [← hz]; simp [hI_setI]
  have q10 : hI h5 m 10 = hI h k 10 := by rw [← hz]; simp [hI_setI]
  have q11 : hI h5 m 11 = hI h k 11 := by rw [← hz]; simp [hI_setI]
  have q12 : hI h5 m 12 = hI h k 12 := by rw [← hz]; simp [hI_setI]
  have q13 : hI h5 m 13 = hI h k 13 := by rw [← hz]; simp [hI_setI]
  have nk : ∀ i j, k ≤ i → i < k + 285 → ¬ fV m i j := fun i j h1 h2 q => by unfold fV at q; omega
  have M5 := hM.keep U5
  have K5 := hK.keep U5
  obtain ⟨h9, a1, a2, a3⟩ := u_copied (d := d) (a := k + 17) (b := m + 17) (by omega) K5.g14 M5.g14
  have U9 : Upf (fV m) h h9 := U5.tr (a2.mono (fun i j q => by unfold fV; omega))
  have M9 := hM.keep U9
  have K9 := hK.keep U9
  obtain ⟨h20, b1, b2, b3⟩ := u_copied (d := d) (a := k + 18) (b := m + 18) (by omega) K9.g15 M9.g15
  have U20 : Upf (fV m) h h20 := U9.tr (b2.mono (fun i j q => by unfold fV; omega))
  have M20 := hM.keep U20
  have K20 := hK.keep U20
  obtain ⟨h31, c1, c2, c3⟩ := u_copied (d := d) (a := k + 19) (b := m + 19) (by omega) K20.g16 M20.g16
  have U31 : Upf (fV m) h h31 := U20.tr (c2.mono (fun i j q => by unfold fV; omega))
  have M31 := hM.keep U31
  have K31 := hK.keep U31
  obtain ⟨h42, d1, d2, d3⟩ := u_copied (d := d) (a := k + 20) (b := m + 20) (by omega) K31.g17 M31.g17
  have U42 : Upf (fV m) h h42 := U31.tr (d2.mono (fun i j q => by unfold fV; omega))
  have M42 := hM.keep U42
  have K42 := hK.keep U42
  obtain ⟨h53, e1, e2, e3⟩ := u_copied (d := d) (a := k + 21) (b := m + 21) (by omega) K42.g18 M42.g18
  have U53 : Upf (fV m) h h53 := U42.tr (e2.mono (fun i j q => by unfold fV; omega))
  have M53 := hM.keep U53
  have K53 := hK.keep U53
  obtain ⟨h64, f1, f2, f3⟩ := u_copied (d := d) (a := k + 22) (b := m + 22) (by omega) K53.g19 M53.g19
  have U64 : Upf (fV m) h h64 := U53.tr (f2.mono (fun i j q => by unfold fV; omega))
  have M64 := hM.keep U64
  have K64 := hK.keep U64
  have key := k_X8_takeFrom_0 (d := d) (h := h) (a0 := m) (a1 := k) (h9 := h9) (h20 := h20) (h31 := h31) (h42 := h42) (h53 := h53) (h64 := h64) hK.g hM.g hK.r14 hM.r14 (by simp only [e]; rw [hz]; exact a1) (Or.inl (by simp only [e]; rw [hz]; exact a2.1)) K9.g K9.r15 M9.g M9.r15 b1 (Or.inl b2.1) K20.g K20.r16 M20.g M20.r16 c1 (Or.inl c2.1) K31.g K31.r17 M31.g M31.r17 d1 (Or.inl d2.1) K42.g K42.r18 M42.g M42.r18 e1 (Or.inl e2.1) K53.g K53.r19 M53.g M53.r19 f1 (Or.inl f2.1) K64.g M64.g
  simp only [e] at key
  have U : Upf (fV m) h64 (setI (setI h64 m 20 (hI h64 k 20)) m 21 (hI h64 k 21)) := (Upf.set (by unfold fV; omega)).st (by unfold fV; omega)
  generalize hy : setI (setI h64 m 20 (hI h64 k 20)) m 21 (hI h64 k 21) = h7 at key U
  have x20 : hI h7 m 20 = hI h k 20 := by
    rw [← hy, hI_setI, if_neg (by omega), hI_setI, if_pos ⟨rfl, rfl⟩]
    exact U64.ii (nk _ _ (by omega) (by omega))
  have x21 : hI h7 m 21 = hI h k 21 := by
    rw [← hy, hI_setI, if_pos ⟨rfl, rfl⟩]
    exact U64.ii (nk _ _ (by omega) (by omega))
  have U5f : Upf (fun i _ => m + 17 ≤ i ∧ i ≤ m + 22) h5 h64 := ((((((a2.mono (fun i j q => by omega)).tr (b2.mono (fun i j q => by omega))).tr (c2.mono (fun i j q => by omega))).tr (d2.mono (fun i j q => by omega))).tr (e2.mono (fun i j q => by omega))).tr (f2.mono (fun i j q => by omega)))
  have y : ∀ j, (j = 9 ∨ j = 10 ∨ j = 11 ∨ j = 12 ∨ j = 13) → hI h7 m j = hI h5 m j := fun j hj => by
    rw [← hy, hI_setI, if_neg (by omega), hI_setI, if_neg (by omega)]
    exact U5f.ii (by omega)
  have r7 : ∀ i j, m + 17 ≤ i → hI h7 i j = hI h64 i j := fun i j hi => by rw [← hy, hI_setI, if_neg (by omega), hI_setI, if_neg (by omega)]
  have s17 : ∀ i, i < 8 → hI h7 (m + 17) i = hI h (k + 17) i := fun i hi => by
    rw [r7 _ _ (by omega), f2.ii (by omega), e2.ii (by omega), d2.ii (by omega), c2.ii (by omega), b2.ii (by omega), a3 i hi]
    exact U5.ii (nk _ _ (by omega) (by omega))
  have s18 : ∀ i, i < 8 → hI h7 (m + 18) i = hI h (k + 18) i := fun i hi => by
    rw [r7 _ _ (by omega), f2.ii (by omega), e2.ii (by omega), d2.ii (by omega), c2.ii (by omega), b3 i hi]
    exact U9.ii (nk _ _ (by omega) (by omega))
  have s19 : ∀ i, i < 8 → hI h7 (m + 19) i = hI h (k + 19) i := fun i hi => by
    rw [r7 _ _ (by omega), f2.ii (by omega), e2.ii (by omega), d2.ii (by omega), c3 i hi]
    exact U20.ii (nk _ _ (by omega) (by omega))
  have s20 : ∀ i, i < 8 → hI h7 (m + 20) i = hI h (k + 20) i := fun i hi => by
    rw [r7 _ _ (by omega), f2.ii (by omega), e2.ii (by omega), d3 i hi]
    exact U31.ii (nk _ _ (by omega) (by omega))
  have s21 : ∀ i, i < 8 → hI h7 (m + 21) i = hI h (k + 21) i := fun i hi => by
    rw [r7 _ _ (by omega), f2.ii (by omega), e3 i hi]
    exact U42.ii (nk _ _ (by omega) (by omega))
  have s22 : ∀ i, i < 8 → hI h7 (m + 22) i = hI h (k + 22) i := fun i hi => by
    rw [r7 _ _ (by omega), f3 i hi]
    exact U53.ii (nk _ _ (by omega) (by omega))
  obtain ⟨⟨p1, p2, p3, p4⟩, ⟨l1, l2, l3⟩, w1, w2, w3, w4, w5, w6⟩ := hB
  refine ⟨h7, jm mi_X8_takeFrom (Nat.le_of_ble_eq_true rfl) rfl rfl key, U64.tr U, ⟨by rw [y 13 (by omega), q13]; exact p1, p2, p3, fun p hp => ?_⟩, ⟨by rw [x20]; exact l1, l2, fun j hj => by rw [s22 j (by omega)]; exact l3 j hj⟩, by rw [y 9 (by omega), q9]; exact w1, by rw [y 10 (by omega), q10]; exact w2, by rw [y 11 (by omega), q11]; exact w3, by rw [y 12 (by omega), q12]; exact w4, by rw [x21]; exact w5, w6⟩
  rw [s17 p (by omega), s18 p (by omega), s19 p (by omega), s20 p (by omega), s21 p (by omega)]
  exact p4 p hp
end TK
