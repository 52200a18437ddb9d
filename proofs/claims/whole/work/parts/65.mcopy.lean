/-! the reference's copy -/
section SY
variable {d : Nat} {h : PH} {m : Nat} {ko to : Option Nat} {T : TS}
theorem v_mv1 {a b i j n : Nat} {w : Nat → Int64} (ha : a < 8) (hin : i + n ≤ 40) : ∀ c k (h : PH), n - k = c → k ≤ n → ModH h m → (∀ y, y < n → hL h (m + 5 + a) (i + y) = w y) → (∀ y, y < k → hL h (m + 13) y = w y) →
    ∃ h1, (∀ o h', J mX8_copy (d + 1) 226 [some (.ref m), some (.int (nI a)), some (.int (nI b)), some (.int (nI i)), some (.int (nI j)), some (.int (nI n)), some (.int (nI n))] [] h1 o h' → J mX8_copy (d + 1) 195 [some (.ref m), some (.int (nI a)), some (.int (nI b)), some (.int (nI i)), some (.int (nI j)), some (.int (nI n)), some (.int (nI k))] [] h o h') ∧ Upr (fun _ _ => False) (fun y => y = m + 13) h h1 ∧ ∀ y, y < n → hL h1 (m + 13) y = w y := by
  intro c
  induction c with
  | zero =>
    intro k h hk hkn hM hw hi
    have : k = n := by omega
    subst this
    exact ⟨h, fun o h' kk => k_X8_copy_195 (fun _ => kk) (fun z => absurd (nI_le (Nat.le_refl _) (by omega)) z), Upr.rf, hi⟩
  | succ c ih =>
    intro k h hk hkn hM hw hi
    have U : Upr (fun _ _ => False) (fun y => y = m + 13) h (setL h (m + 13) k (w k)) := Upr.setL rfl
    have ca : (nI a).toNatClampNeg = a := nI_clamp (by omega)
    have ck : (nI k).toNatClampNeg = k := nI_clamp (by omega)
    have e : nI i + nI k = nI (i + k) := nI_add _ _
    obtain ⟨h1, b1, b2, b3⟩ := ih (k + 1) (setL h (m + 13) k (w k)) (by omega) (by omega) (hM.keepr U) (fun y hy => by rw [U.2.2.2.2.1 _ (by omega)]; exact hw y hy) (fun y hy => by
      rw [hL_setL]
      by_cases e : y = k
      · rw [if_pos ⟨rfl, e⟩, e]
      · rw [if_neg (fun z => e z.2)]; exact hi y (by omega))
    refine ⟨h1, fun o h' kk => k_X8_copy_195 (fun z => absurd z (nI_ge (by omega) (by omega))) (fun _ => k_X8_copy_202 hM.g hM.r4 hM.r3 hM.g3 (by decide) (vp_in_nI (by omega) (by omega)) (by rw [ca]; exact hM.rw ha) (hM.gw ha) (by rw [e]; exact (vp_in_nI (by omega) (by omega))) hM.g4 (vp_in_nI (by omega) (by omega)) ?_), U.tr b2, b3⟩
    rw [e, ck, nI_clamp (n := i + k) (by omega), hw k (by omega), nI_1]
    exact b1 o h' kk
theorem v_mv2 {a b i j n : Nat} {w u : Nat → Int64} (hb : b < 8) (hjn : j + n ≤ 40) : ∀ c k (h : PH), n - k = c → k ≤ n → ModH h m → (∀ y, y < n → hL h (m + 13) y = w y) → (∀ y, y < 40 → hL h (m + 5 + b) y = if j ≤ y ∧ y < j + k then w (y - j) else u y) →
    ∃ h1, J mX8_copy (d + 1) 229 [some (.ref m), some (.int (nI a)), some (.int (nI b)), some (.int (nI i)), some (.int (nI j)), some (.int (nI n)), some (.int (nI k))] [] h (some (.int (nI n))) h1 ∧ Upr (fun _ _ => False) (fun y => y = m + 5 + b) h h1 ∧ ∀ y, y < 40 → hL h1 (m + 5 + b) y = if j ≤ y ∧ y < j + n then w (y - j) else u y := by
  intro c
  induction c with
  | zero =>
    intro k h hk hkn hM hw hi
    have : k = n := by omega
    subst this
    exact ⟨h, k_X8_copy_229 (fun _ => k_X8_copy_261) (fun z => absurd (nI_le (Nat.le_refl _) (by omega)) z), Upr.rf, hi⟩
  | succ c ih =>
    intro k h hk hkn hM hw hi
    have U : Upr (fun _ _ => False) (fun y => y = m + 5 + b) h (setL h (m + 5 + b) (j + k) (w k)) := Upr.setL rfl
    have cb : (nI b).toNatClampNeg = b := nI_clamp (by omega)
    have ck : (nI k).toNatClampNeg = k := nI_clamp (by omega)
    have e : nI j + nI k = nI (j + k) := nI_add _ _
    obtain ⟨h1, b1, b2, b3⟩ := ih (k + 1) (setL h (m + 5 + b) (j + k) (w k)) (by omega) (by omega) (hM.keepr U) (fun y hy => by rw [U.2.2.2.2.1 _ (by omega)]; exact hw y hy) (fun y hy => by
      rw [hL_setL]
      by_cases e : y = j + k
      · rw [if_pos ⟨rfl, e⟩, if_pos (by omega), show y - j = k by omega]
      · rw [if_neg (fun z => e z.2), hi y hy]
        by_cases z : j ≤ y ∧ y < j + k
        · rw [if_pos z, if_pos (by omega)]
        · rw [if_neg z, if_neg (by omega)])
    refine ⟨h1, k_X8_copy_229 (fun z => absurd z (nI_ge (by omega) (by omega))) (fun _ => k_X8_copy_236 hM.g hM.r3 hM.g3 (by decide) (vp_in_nI (by omega) (by omega)) (by rw [cb]; exact hM.rw hb) hM.r4 hM.g4 (vp_in_nI (by omega) (by omega)) (hM.gw hb) (by rw [e]; exact (vp_in_nI (by omega) (by omega))) ?_), U.tr b2, b3⟩
    rw [e, ck, nI_clamp (n := j + k) (by omega), hw k (by omega), nI_1]
    exact b1
theorem m_copy {p q i j n : Int32} (hS : MS h m ko to T) : RfL mX8_copy (d + 10) [.ref m, .int p, .int q, .int i, .int j, .int n] h m ko to (s_copy T p q i j n).1 (s_copy T p q i j n).2 := by
  have hS0 := hS
  obtain ⟨hT, hM, hB, hTp, hRf, hSh, hK, hTr⟩ := hS
  obtain ⟨o1, o2, o3, o4, o5, o6⟩ := hT.1
  have n8 := hB.n8
  have l8 := hB.l8
  unfold s_copy
  cases hb : inB p 0 7 with
  | false =>
    rw [Bool.false_and, if_neg (by decide)]
    exact (muR (k := 0) (by omega) hS0 (fun h1 r e => jm mi_X8_copy (Nat.le_of_ble_eq_true rfl) ⟨.int, rfl, rfl⟩ rfl (k_X8_copy_0 t_in_0_7 (Or.inl rfl) (fun _ => k_X8_copy_24 r (Or.inl e) hM.g) (fun z => absurd z (by rw [hb]; decide))))).l
  | true =>
    rw [Bool.true_and]
    cases hb2 : inB q 0 7 with
    | false =>
      rw [if_neg (by decide)]
      exact (muR (k := 0) (by omega) hS0 (fun h1 r e => jm mi_X8_copy (Nat.le_of_ble_eq_true rfl) ⟨.int, rfl, rfl⟩ rfl (k_X8_copy_0 t_in_0_7 (Or.inl rfl) (fun z => absurd z (by rw [hb]; decide)) (fun _ => k_X8_copy_12 t_in_0_7 (Or.inl rfl) (fun z => absurd z (by rw [hb2]; decide)) (fun _ => k_X8_copy_24 r (Or.inl e) hM.g))))).l
    | true =>
      rw [if_pos rfl]
      obtain ⟨a, ha, rfl⟩ := inB_nI (n := 7) (by omega) hb
      obtain ⟨b, hb7, rfl⟩ := inB_nI (n := 7) (by omega) hb2
      rw [nn_I (k := b) (by omega)]
      rw [shfA_in (by omega), shfA_in (by omega)]
      have hqa := hSh a (by omega)
      have hqb := hSh b (by omega)
      have ca : (nI a).toNatClampNeg = a := nI_clamp (by omega)
      have cb : (nI b).toNatClampNeg = b := nI_clamp (by omega)
      have ent : ∀ {o : Option Value} {h' : PH}, RetT (some .int) o → J mX8_copy (d + 10) 32 [some (.ref m), some (.int (nI a)), some (.int (nI b)), some (.int i), some (.int j), some (.int n), none] [] h o h' → JMt mX8_copy (some .int) (d + 10) [.ref m, .int (nI a), .int (nI b), .int i, .int j, .int n] h o h' := fun rt kk => jm mi_X8_copy (Nat.le_of_ble_eq_true rfl) rt rfl (k_X8_copy_0 t_in_0_7 (Or.inl rfl) (fun z => absurd z (by rw [hb]; decide)) (fun _ => k_X8_copy_12 t_in_0_7 (Or.inl rfl) (fun _ => kk) (fun z => absurd z (by rw [hb2]; decide))))
      -- neither is a person's
      have ent2 : ∀ {o : Option Value} {h' : PH}, hI h (m + 1) a ≠ 2 → hI h (m + 1) b ≠ 2 → RetT (some .int) o → J mX8_copy (d + 10) 52 [some (.ref m), some (.int (nI a)), some (.int (nI b)), some (.int i), some (.int j), some (.int n), none] [] h o h' → JMt mX8_copy (some .int) (d + 10) [.ref m, .int (nI a), .int (nI b), .int i, .int j, .int n] h o h' := fun na nb rt kk => ent rt (k_X8_copy_32 hM.g hM.r0 hM.g0 (vp_in_nI (by omega) (by omega)) (fun z => absurd (by rw [ca] at z; exact z) na) (fun _ => k_X8_copy_42 hM.g hM.r0 hM.g0 (vp_in_nI (by omega) (by omega)) (fun z => absurd (by rw [cb] at z; exact z) nb) (fun _ => kk)))
      have other : hI h (m + 1) a = 2 ∨ hI h (m + 1) b = 2 → RfL mX8_copy (d + 10) [.ref m, .int (nI a), .int (nI b), .int i, .int j, .int n] h m ko to (rfI 1) (rfT T 1) := fun z => (muR (k := 1) (by omega) hS0 (fun h1 r e => ent ⟨.int, rfl, rfl⟩ (k_X8_copy_32 hM.g hM.r0 hM.g0 (vp_in_nI (by omega) (by omega)) (fun _ => k_X8_copy_87 r (Or.inl e) hM.g) (fun y => k_X8_copy_42 hM.g hM.r0 hM.g0 (vp_in_nI (by omega) (by omega)) (fun _ => k_X8_copy_87 r (Or.inl e) hM.g) (fun y2 => absurd (by rw [ca] at y; rw [cb] at y2; exact z.elim (fun w => y w) (fun w => y2 w)) (fun f => f)))))).l
      -- one holds nothing
      have noth : hI h (m + 1) a ≠ 2 → hI h (m + 1) b ≠ 2 → hI h (m + 1) a = 0 ∨ hI h (m + 1) b = 0 → RfL mX8_copy (d + 10) [.ref m, .int (nI a), .int (nI b), .int i, .int j, .int n] h m ko to (rfI 2) (rfT T 2) := fun na nb z => (muR (k := 2) (by omega) hS0 (fun h1 r e => by
        have fin : J mX8_copy (d + 10) 95 [some (.ref m), some (.int (nI a)), some (.int (nI b)), some (.int i), some (.int j), some (.int n), none] [] h (some (.int (rfI 2))) h1 := k_X8_copy_95 hM.g hM.r0 hM.g0 (vp_in_nI (by omega) (by omega)) (fun _ => k_X8_copy_113 r (Or.inl e) hM.g) (fun y => k_X8_copy_104 hM.g hM.r0 hM.g0 (vp_in_nI (by omega) (by omega)) (fun y2 => absurd (by rw [ca] at y; rw [cb] at y2; exact z.elim (fun w => y w) (fun w => y2 w)) (fun f => f)) (fun _ => k_X8_copy_113 r (Or.inl e) hM.g))
        refine ent2 na nb ⟨.int, rfl, rfl⟩ (k_X8_copy_52 hM.g hM.r0 hM.g0 (vp_in_nI (by omega) (by omega)) (fun _ => fin) (fun y => k_X8_copy_62 hM.g hM.r0 hM.g0 (vp_in_nI (by omega) (by omega)) (fun _ => fin) (fun y2 => absurd (by rw [ca] at y; rw [cb] at y2; exact z.elim (fun w => by rw [w] at y; exact absurd y (by decide)) (fun w => by rw [w] at y2; exact absurd y2 (by decide))) (fun f => f)))))).l
      generalize hTa : T.2.2.1 a = qa at hqa
      generalize hTb : T.2.2.1 b = qb at hqb
      match qa, qb, hqa, hqb, hTa, hTb with
      | some (.inl _), _, hqa, _, _, _ =>
        rw [show isShB (some (.inl _) : Shf) = true from rfl, Bool.true_or, if_pos rfl]
        exact other (Or.inl hqa.1)
      | none, some (.inl _), _, hqb, _, _ => exact other (Or.inr hqb.1)
      | some (.inr _), some (.inl _), _, hqb, _, _ => exact other (Or.inr hqb.1)
      | none, none, hqa, hqb, _, _ =>
        have hqa : hI h (m + 1) a = 0 := hqa
        have hqb : hI h (m + 1) b = 0 := hqb
        exact noth (by rw [hqa]; decide) (by rw [hqb]; decide) (Or.inl hqa)
      | none, some (.inr (_, _, _)), hqa, hqb, _, _ =>
        have hqa : hI h (m + 1) a = 0 := hqa
        have hqb := hqb.1
        exact noth (by rw [hqa]; decide) (by rw [hqb]; decide) (Or.inl hqa)
      | some (.inr (_, _, _)), none, hqa, hqb, _, _ =>
        have hqa := hqa.1
        have hqb : hI h (m + 1) b = 0 := hqb
        exact noth (by rw [hqa]; decide) (by rw [hqb]; decide) (Or.inr hqb)
      | some (.inr (sort, l, v)), some (.inr (sort', l', u)), ⟨a1, a2, a3, a4, a5, a6⟩, ⟨b1, b2, b3, b4, b5, b6⟩, hTa, hTb =>
        rw [show (isShB (some (.inr (sort, l, v)) : Shf) || isShB (some (.inr (sort', l', u)) : Shf)) = false from rfl, if_neg (by decide)]
        have na : hI h (m + 1) a ≠ 2 := by rw [a1]; decide
        have nb : hI h (m + 1) b ≠ 2 := by rw [b1]; decide
        have ent3 : ∀ {o : Option Value} {h' : PH}, RetT (some .int) o → J mX8_copy (d + 10) 72 [some (.ref m), some (.int (nI a)), some (.int (nI b)), some (.int i), some (.int j), some (.int n), none] [] h o h' → JMt mX8_copy (some .int) (d + 10) [.ref m, .int (nI a), .int (nI b), .int i, .int j, .int n] h o h' := fun rt kk => ent2 na nb rt (k_X8_copy_52 hM.g hM.r0 hM.g0 (vp_in_nI (by omega) (by omega)) (fun z => absurd (by rw [ca]; exact a1) z) (fun _ => k_X8_copy_62 hM.g hM.r0 hM.g0 (vp_in_nI (by omega) (by omega)) (fun z => absurd (by rw [cb]; exact b1) z) (fun _ => kk)))
        dsimp only
        by_cases hsort : sort = sort'
        · rw [if_pos hsort]
          have ent4 : ∀ {o : Option Value} {h' : PH}, RetT (some .int) o → J mX8_copy (d + 10) 121 [some (.ref m), some (.int (nI a)), some (.int (nI b)), some (.int i), some (.int j), some (.int n), none] [] h o h' → JMt mX8_copy (some .int) (d + 10) [.ref m, .int (nI a), .int (nI b), .int i, .int j, .int n] h o h' := fun rt kk => ent3 rt (k_X8_copy_72 hM.g hM.r1 hM.g1 (vp_in_nI (by omega) (by omega)) (vp_in_nI (by omega) (by omega)) (fun _ => k_X8_copy_95 hM.g hM.r0 hM.g0 (vp_in_nI (by omega) (by omega)) (fun z => absurd z (by rw [ca, a1]; decide)) (fun _ => k_X8_copy_104 hM.g hM.r0 hM.g0 (vp_in_nI (by omega) (by omega)) (fun _ => kk) (fun z => absurd z (by rw [cb, b1]; decide)))) (fun z => absurd (by rw [ca, cb, a2, b2, hsort]) z))
          have sa : hI h (m + 3) (nI a).toNatClampNeg = nI l := by rw [ca]; exact a3
          have sb : hI h (m + 3) (nI b).toNatClampNeg = nI l' := by rw [cb]; exact b3
          by_cases hc : (0 ≤ i.toInt ∧ 0 ≤ j.toInt ∧ 0 ≤ n.toInt) ∧ (i.toInt + n.toInt ≤ l ∧ j.toInt + n.toInt ≤ l')
          · rw [if_pos hc]
            obtain ⟨⟨c1, c2, c3⟩, c4, c5⟩ := hc
            obtain ⟨n, hn1, rfl⟩ := inr (x := n) (n := 41) (by rw [lt0I]; omega) (by omega)
            obtain ⟨i, hi1, rfl⟩ := inr (x := i) (n := 41) (by rw [lt0I]; omega) (by omega)
            obtain ⟨j, hj1, rfl⟩ := inr (x := j) (n := 41) (by rw [lt0I]; omega) (by omega)
            rw [nI_toInt (by omega), nI_toInt (by omega)] at c4 c5
            rw [nn_I (by omega), nn_I (by omega), nn_I (by omega)]
            have hin : i + n ≤ l := by omega
            have hjn : j + n ≤ l' := by omega
            obtain ⟨h1, m1, m2, m3⟩ := v_mv1 (d := d + 9) (m := m) (a := a) (b := b) (i := i) (j := j) (n := n) (w := fun y => v (i + y)) (by omega) (by omega) _ 0 h rfl (Nat.zero_le _) hM (fun y hy => a6 _ (by omega)) (fun y z => absurd z (Nat.not_lt_zero y))
            obtain ⟨h2, e1, e2, e3⟩ := v_mv2 (d := d + 9) (m := m) (a := a) (b := b) (i := i) (j := j) (n := n) (w := fun y => v (i + y)) (u := fun y => hL h (m + 5 + b) y) (by omega) (by omega) _ 0 h1 rfl (Nat.zero_le _) (hM.keepr m2) m3 (fun y hy => by rw [if_neg (by omega), m2.2.2.2.2.1 _ (by omega)])
            have U : Upr (fH m b) (gH m b) h h2 := (m2.mono (fun _ _ z => z.elim) (fun y z => Or.inr z)).tr (e2.mono (fun _ _ z => z.elim) (fun y z => Or.inl z))
            have sub1 : nI l - nI n = nI (l - n) := pk_sub (by omega)
            have sub2 : nI l' - nI n = nI (l' - n) := pk_sub (by omega)
            refine rlS hS0 (by omega) (ent4 ⟨.int, rfl, rfl⟩ (k_X8_copy_121 (fun z => absurd z (nI_lt0 (by omega))) (fun _ => k_X8_copy_126 (fun z => absurd z (nI_lt0 (by omega))) (fun _ => k_X8_copy_130 (fun z => absurd z (nI_lt0 (by omega))) (fun _ => k_X8_copy_135 hM.g hM.r2 hM.g2 (vp_in_nI (by omega) (by omega)) (fun z => absurd z (by rw [sa]; exact nI_nlt (a := l) (b := n) (by omega) (by omega))) (fun _ => k_X8_copy_146 hM.g hM.r2 hM.g2 (vp_in_nI (by omega) (by omega)) (fun z => absurd z (by rw [sb]; exact nI_nlt (a := l') (b := n) (by omega) (by omega))) (fun _ => k_X8_copy_157 hM.g hM.r2 hM.g2 (vp_in_nI (by omega) (by omega)) (fun z => absurd z (by rw [sa, sub1]; exact nI_nlt (a := l - n) (b := i) (by omega) (by omega))) (fun _ => k_X8_copy_170 hM.g hM.r2 hM.g2 (vp_in_nI (by omega) (by omega)) (fun _ => k_X8_copy_192 (m1 _ _ (k_X8_copy_226 e1))) (fun z => absurd (by rw [sb, sub2]; exact nI_le (a := j) (b := l' - n) (by omega) (by omega)) z))))))))) U ⟨?_, ?_, ?_, b4, b5, fun y hy => ?_⟩ (fun p z => by cases z)
            · rw [e2.ii (fun z => z), m2.ii (fun z => z)]; exact b1
            · rw [e2.ii (fun z => z), m2.ii (fun z => z)]; exact b2
            · rw [e2.ii (fun z => z), m2.ii (fun z => z)]; exact b3
            · show hL h2 (m + 5 + b) y = if j ≤ y ∧ y < j + n then v (i + (y - j)) else u y
              rw [e3 y (by omega)]
              by_cases z : j ≤ y ∧ y < j + n
              · rw [if_pos z, if_pos z]
              · rw [if_neg z, if_neg z]
                exact b6 y hy
          · rw [if_neg hc]
            refine (muR (k := 0) (by omega) hS0 (fun h1 r e => ent4 ⟨.int, rfl, rfl⟩ ?_)).l
            have b : J mX8_copy (d + 10) 184 [some (.ref m), some (.int (nI a)), some (.int (nI b)), some (.int i), some (.int j), some (.int n), none] [] h (some (.int (rfI 0))) h1 := k_X8_copy_184 r (Or.inl e) hM.g
            refine k_X8_copy_121 (fun _ => b) (fun z1 => k_X8_copy_126 (fun _ => b) (fun z2 => k_X8_copy_130 (fun _ => b) (fun z3 => k_X8_copy_135 hM.g hM.r2 hM.g2 (vp_in_nI (by omega) (by omega)) (fun _ => b) (fun z4 => k_X8_copy_146 hM.g hM.r2 hM.g2 (vp_in_nI (by omega) (by omega)) (fun _ => b) (fun z5 => k_X8_copy_157 hM.g hM.r2 hM.g2 (vp_in_nI (by omega) (by omega)) (fun _ => b) (fun z6 => k_X8_copy_170 hM.g hM.r2 hM.g2 (vp_in_nI (by omega) (by omega)) (fun z7 => absurd ?_ hc) (fun _ => b)))))))
            rw [sa, gtLit (by omega)] at z4
            rw [sb, gtLit (by omega)] at z5
            rw [lt0I] at z1 z2 z3
            obtain ⟨n, hn1, rfl⟩ := inr (x := n) (n := 41) (by rw [lt0I]; omega) (by omega)
            rw [nI_toInt (by omega)] at z4 z5 ⊢
            rw [sa, pk_sub (by omega), gtLit (by omega)] at z6
            rw [sb, pk_sub (by omega), leLit (by omega)] at z7
            omega
        · rw [if_neg hsort]
          refine (muR (k := 1) (by omega) hS0 (fun h1 r e => ent3 ⟨.int, rfl, rfl⟩ (k_X8_copy_72 hM.g hM.r1 hM.g1 (vp_in_nI (by omega) (by omega)) (vp_in_nI (by omega) (by omega)) (fun z => absurd ?_ hsort) (fun _ => k_X8_copy_87 r (Or.inl e) hM.g)))).l
          rw [ca, cb, a2, b2] at z
          exact (nI_eq (by omega) (by omega)).mp z
end SY
