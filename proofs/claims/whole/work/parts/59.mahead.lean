/-! the reference: ahead -/
theorem fallW_w {σ : WS} : (fallW σ).2.2.1 = σ.2.2.1 ∧ (fallW σ).2.2.2.1 = σ.2.2.2.1 ∧ (fallW σ).2.2.2.2.1 = σ.2.2.2.2.1 ∧ (fallW σ).2.2.2.2.2.2 = σ.2.2.2.2.2.2 := by
  unfold fallW
  split <;> exact ⟨rfl, rfl, rfl, rfl⟩
theorem ah_step {σ τ : WS} {s : List Nat × Nat} {f0 : Int32} {j : Nat} (h1 : τ.1 = σ.1) (h2 : τ.2.1 = s.1) (h3 : τ.2.2.1 = σ.2.2.1) (h4 : τ.2.2.2.1 = σ.2.2.2.1) (h5 : τ.2.2.2.2.2.1 = f0 + nI s.2) (h6 : τ.2.2.2.2.2.2 = σ.2.2.2.2.2.2) :
    (turnW τ).1 = σ.1 ∧ (turnW τ).2.1 = (ahS σ j s).1 ∧ (turnW τ).2.2.1 = σ.2.2.1 ∧ (turnW τ).2.2.2.1 = σ.2.2.2.1 ∧ (turnW τ).2.2.2.2.2.1 = f0 + nI (ahS σ j s).2 ∧ (turnW τ).2.2.2.2.2.2 = σ.2.2.2.2.2.2 := by
  obtain ⟨w1, w2, w3, w4⟩ := fallW_w (σ := (τ.1, turnL τ.2.2.2.1 τ.1.length τ.2.1, τ.2.2.1, τ.2.2.2.1, if τ.2.2.2.2.1 < 999 then τ.2.2.2.2.1 + 1 else 999, τ.2.2.2.2.2.1, τ.2.2.2.2.2.2))
  refine ⟨(turnW_P τ).trans h1, ?_, w1.trans h3, w2.trans h4, ?_, w4.trans h6⟩
  · unfold turnW fallW ahS
    dsimp only
    rw [h1, h2, h3, h4]
    split <;> rfl
  · unfold turnW fallW ahS
    dsimp only
    rw [h1, h2, h3, h4]
    split
    · exact h5
    · show τ.2.2.2.2.2.1 + 1 = f0 + nI (s.2 + 1)
      rw [h5, ← nI_1, ← Int32.add_assoc]
section TA
variable {d : Nat} {h h1 : PH} {m : Nat} {ko to : Option Nat} {T : TS}
theorem v_save {x1 x2 x3 x4 x5 : Int32} {σ : WS} : ∀ n j (h : PH), σ.2.1.length - j = n → j ≤ σ.2.1.length → ModH h m → MB h m σ → (∀ i, i < j → hI h (m + 284) i = nI (σ.2.1.getD i 0)) →
    ∃ h1, (∀ o h', J mX8_ahead (d + 8) 81 [some (.ref m), some (.int x1), some (.int x2), some (.int x3), some (.int x4), some (.int x5), some (.int (nI σ.2.1.length)), none] [] h1 o h' → J mX8_ahead (d + 8) 52 [some (.ref m), some (.int x1), some (.int x2), some (.int x3), some (.int x4), some (.int x5), some (.int (nI j)), none] [] h o h') ∧ Upf (fun i _ => i = m + 284) h h1 ∧ ∀ i, i < σ.2.1.length → hI h1 (m + 284) i = nI (σ.2.1.getD i 0) := by
  intro n
  induction n with
  | zero =>
    intro j h hj hl hM hB hi
    have l8 := hB.l8
    have : j = σ.2.1.length := by omega
    subst this
    exact ⟨h, fun o h' kk => k_X8_ahead_52 hM.g (fun _ => kk) (fun q => absurd (by rw [hB.sz]; exact nI_le (by omega) (by omega)) q), Upf.rf, hi⟩
  | succ n ih =>
    intro j h hj hl hM hB hi
    have l8 := hB.l8
    have hjl : j < σ.2.1.length := by omega
    have U : Upf (fun i _ => i = m + 284) h (setI h (m + 284) j (nI (σ.2.1.getD j 0))) := Upf.set rfl
    obtain ⟨h1, b1, b2, b3⟩ := ih (j + 1) (setI h (m + 284) j (nI (σ.2.1.getD j 0))) (by omega) (by omega) (hM.keep U) (hB.keep U (fun i k q => by unfold fV at q; omega)) (fun i hij => by
      rw [hI_setI]
      by_cases e : i = j
      · rw [if_pos ⟨rfl, e⟩, e]
      · rw [if_neg (fun z => e z.2)]; exact hi i (by omega))
    refine ⟨h1, fun o h' kk => k_X8_ahead_52 hM.g (fun q => absurd q (by rw [hB.sz]; exact nI_ge hjl (by omega))) (fun _ => k_X8_ahead_61 hM.g hM.r35 hM.r19 hM.g19 (vp_in_nI (by omega) (by omega)) hM.g35 (vp_in_nI (by omega) (by omega)) ?_), U.tr b2, b3⟩
    rw [nI_clamp (by omega), hB.sk hjl, nI_1]
    exact b1 o h' kk
theorem v_aturns {n : Nat} {x2 x3 x4 x5 : Int32} : ∀ k j (h : PH) (τ : WS), n - j = k → j ≤ n → n ≤ 60 → okW τ → 0 < τ.1.length → ModH h m → MB h m τ →
    ∃ h1, (∀ o h', J mX8_ahead (d + 8) 108 [some (.ref m), some (.int (nI n)), some (.int x2), some (.int x3), some (.int x4), some (.int x5), some (.int (nI n)), none] [] h1 o h' → J mX8_ahead (d + 8) 84 [some (.ref m), some (.int (nI n)), some (.int x2), some (.int x3), some (.int x4), some (.int x5), some (.int (nI j)), none] [] h o h') ∧ Upf (fV m) h h1 ∧ MB h1 m (itF (fun _ s => turnW s) k j τ) ∧ okW (itF (fun _ s => turnW s) k j τ) := by
  intro k
  induction k with
  | zero =>
    intro j h τ hj hl hn ho hp hM hB
    have : j = n := by omega
    subst this
    exact ⟨h, fun o h' kk => k_X8_ahead_84 (fun _ => kk) (fun q => absurd (nI_le (Nat.le_refl _) (by omega)) q), Upf.rf, hB, ho⟩
  | succ k ih =>
    intro j h τ hj hl hn ho hp hM hB
    have n8 := hB.n8
    obtain ⟨h2, t1, t2, t3⟩ := u_turns (d := d) hM hB ho hp
    obtain ⟨h1, b1, b2, b3, b4⟩ := ih (j + 1) h2 (turnW τ) (by omega) (by omega) hn (okW_turn ho) (by rw [turnW_P]; exact hp) (hM.keep t2) t3
    refine ⟨h1, fun o h' kk => k_X8_ahead_84 (fun q => absurd q (nI_ge (by omega) (by omega))) (fun _ => k_X8_ahead_90 hM.g (fun q => absurd q (by rw [hB.n]; exact nI_ge (a := 0) (b := τ.1.length) hp (by omega))) (fun _ => k_X8_ahead_97 t1 (Or.inl t2.1) hM.g ?_)), t2.tr b2, b3, b4⟩
    rw [nI_1]
    exact b1 o h' kk
theorem v_give {x1 x2 x3 x4 x5 v : Int32} {L : List Nat} (l8 : L.length ≤ 8) : ∀ n j (h : PH), L.length - j = n → j ≤ L.length → ModH h m → hI h m 20 = nI L.length → (∀ i, i < L.length → hI h (m + 284) i = nI (L.getD i 0)) → (∀ i, i < j → hI h (m + 22) i = nI (L.getD i 0)) →
    ∃ h1, J mX8_ahead (d + 8) 172 [some (.ref m), some (.int x1), some (.int x2), some (.int x3), some (.int x4), some (.int x5), some (.int v), some (.int (nI j))] [] h (some (.int v)) h1 ∧ Upf (fun i _ => i = m + 22) h h1 ∧ ∀ i, i < L.length → hI h1 (m + 22) i = nI (L.getD i 0) := by
  intro n
  induction n with
  | zero =>
    intro j h hj hl hM h5 hw hi
    have : j = L.length := by omega
    subst this
    exact ⟨h, k_X8_ahead_172 hM.g (fun _ => k_X8_ahead_201) (fun q => absurd (by rw [h5]; exact nI_le (by omega) (by omega)) q), Upf.rf, hi⟩
  | succ n ih =>
    intro j h hj hl hM h5 hw hi
    have hjl : j < L.length := by omega
    have U : Upf (fun i _ => i = m + 22) h (setI h (m + 22) j (nI (L.getD j 0))) := Upf.set rfl
    obtain ⟨h1, b1, b2, b3⟩ := ih (j + 1) (setI h (m + 22) j (nI (L.getD j 0))) (by omega) (by omega) (hM.keep U) (by rw [U.ii (by omega)]; exact h5) (fun i hil => by rw [U.ii (by omega)]; exact hw i hil) (fun i hij => by
      rw [hI_setI]
      by_cases e : i = j
      · rw [if_pos ⟨rfl, e⟩, e]
      · rw [if_neg (fun z => e z.2)]; exact hi i (by omega))
    refine ⟨h1, k_X8_ahead_172 hM.g (fun q => absurd q (by rw [h5]; exact nI_ge hjl (by omega))) (fun _ => k_X8_ahead_181 hM.g hM.r19 hM.r35 hM.g35 (vp_in_nI (by omega) (by omega)) hM.g19 (vp_in_nI (by omega) (by omega)) ?_), U.tr b2, b3⟩
    rw [nI_clamp (by omega), hw j hjl, nI_1]
    exact b1
theorem ah_nil {σ : WS} (hn : σ.1.length = 0) : ∀ k j (c : Nat), itF (ahS σ) k j (([], c) : List Nat × Nat) = ([], c)
  | 0, _, _ => rfl
  | k + 1, j, c => by
    have e : ahS σ j ([], c) = ([], c) := by
      have t : turnL σ.2.2.2.1 σ.1.length [] = [] := by
        unfold turnL
        rw [hn, show behindF 0 (roomL σ.2.2.2.1 0 []) = none from rfl]
        show roomL σ.2.2.2.1 0 [] = []
        unfold roomL
        split <;> rfl
      unfold ahS
      dsimp only
      rw [t]
      split <;> rename_i z
      · rfl
      · exact absurd rfl z
    rw [itF_1, e]
    exact ah_nil hn k (j + 1) c
theorem itF_rel {A B : Type} {f : Nat → A → A} {g : Nat → B → B} {R : A → B → Prop} (hs : ∀ j a b, R a b → R (f j a) (g j b)) : ∀ k j a b, R a b → R (itF f k j a) (itF g k j b)
  | 0, _, _, _, h => h
  | k + 1, j, _, _, h => itF_rel hs k (j + 1) _ _ (hs j _ _ h)
theorem le3 {k : Nat} (h : k ≤ 3) : k = 0 ∨ k = 1 ∨ k = 2 ∨ k = 3 := by omega
theorem m_ahead {n w : Int32} (hS : MS h m ko to T) : RfQ mX8_ahead (d + 10) [.ref m, .int n, .int w] h m ko to T (q_ahead T.1 n w) := by
  have hS0 := hS
  obtain ⟨hT, hM, hB, hTp, hRf, hSh, hK, hTr⟩ := hS
  obtain ⟨o1, o2, o3, o4, o5, o6⟩ := hT.1
  have n8 := hB.n8
  have l8 := hB.l8
  unfold q_ahead
  cases hb : inB n 0 60 with
  | false =>
    rw [Bool.false_and, if_neg (by decide)]
    exact mqR (k := 0) (by omega) hS0 (fun h1 r e => jm mi_X8_ahead (Nat.le_of_ble_eq_true rfl) ⟨.int, rfl, rfl⟩ rfl (k_X8_ahead_0 t_in_0_60 (Or.inl rfl) (fun _ => k_X8_ahead_24 r (Or.inl e) hM.g) (fun z => absurd z (by rw [hb]; decide))))
  | true =>
    rw [Bool.true_and]
    cases hb2 : inB w 0 3 with
    | false =>
      rw [if_neg (by decide)]
      exact mqR (k := 0) (by omega) hS0 (fun h1 r e => jm mi_X8_ahead (Nat.le_of_ble_eq_true rfl) ⟨.int, rfl, rfl⟩ rfl (k_X8_ahead_0 t_in_0_60 (Or.inl rfl) (fun z => absurd z (by rw [hb]; decide)) (fun _ => k_X8_ahead_12 t_in_0_3 (Or.inl rfl) (fun z => absurd z (by rw [hb2]; decide)) (fun _ => k_X8_ahead_24 r (Or.inl e) hM.g))))
    | true =>
      rw [if_pos rfl]
      obtain ⟨n, hn, rfl⟩ := inB_nI (n := 60) (by omega) hb
      obtain ⟨w, hw, rfl⟩ := inB_nI (n := 3) (by omega) hb2
      rw [nn_I (by omega), nn_I (by omega)]
      -- the tower is kept
      obtain ⟨hs, a1, a2, a3⟩ := v_save (d := d + 2) (m := m) (x1 := nI n) (x2 := nI w) (x3 := hI h m 20) (x4 := hI h m 11) (x5 := hI h m 12) _ 0 h rfl (Nat.zero_le _) hM hB (fun i z => absurd z (Nat.not_lt_zero i))
      have hMs := hM.keep a2
      have hBs := hB.keep a2 (fun i k q => by unfold fV at q; omega)
      -- the days
      have days : ∃ (ht : PH) (τ : WS), (∀ o h', J mX8_ahead (d + 10) 108 [some (.ref m), some (.int (nI n)), some (.int (nI w)), some (.int (hI h m 20)), some (.int (hI h m 11)), some (.int (hI h m 12)), some (.int (nI (if T.1.1.length = 0 then 0 else n))), none] [] ht o h' → J mX8_ahead (d + 10) 84 [some (.ref m), some (.int (nI n)), some (.int (nI w)), some (.int (hI h m 20)), some (.int (hI h m 11)), some (.int (hI h m 12)), some (.int 0), none] [] hs o h') ∧ Upf (fV m) hs ht ∧ MB ht m τ ∧ okW τ ∧ (τ.1 = T.1.1 ∧ τ.2.1 = (itF (ahS T.1) n 0 (T.1.2.1, 0)).1 ∧ τ.2.2.1 = T.1.2.2.1 ∧ τ.2.2.2.1 = T.1.2.2.2.1 ∧ τ.2.2.2.2.2.1 = T.1.2.2.2.2.2.1 + nI (itF (ahS T.1) n 0 (T.1.2.1, 0)).2 ∧ τ.2.2.2.2.2.2 = T.1.2.2.2.2.2.2) := by
        by_cases hz : T.1.1.length = 0
        · have hL0 : T.1.2.1 = [] := by
            cases hL : T.1.2.1 with
            | nil => rfl
            | cons a l => have := o1 a (by rw [hL]; exact List.mem_cons_self); omega
          have e := ah_nil hz n 0 0
          rw [← hL0] at e
          refine ⟨hs, T.1, fun o h' kk => ?_, Upf.rf, hBs, hT.1, rfl, by rw [e], rfl, rfl, by rw [e]; exact (Int32.add_zero _).symm, rfl⟩
          rw [if_pos hz] at kk
          exact k_X8_ahead_84 (fun _ => kk) (fun _ => k_X8_ahead_90 hMs.g (fun _ => kk) (fun q => absurd (by rw [hBs.n, hz]; decide) q))
        · obtain ⟨ht, b1, b2, b3, b4⟩ := v_aturns (d := d + 2) (m := m) (n := n) (x2 := nI w) (x3 := hI h m 20) (x4 := hI h m 11) (x5 := hI h m 12) _ 0 hs T.1 rfl (Nat.zero_le _) hn hT.1 (by omega) hMs hBs
          rw [Nat.sub_zero] at b3 b4
          have rel := itF_rel (f := ahS T.1) (g := fun _ s => turnW s) (R := fun (s : List Nat × Nat) (τ : WS) => τ.1 = T.1.1 ∧ τ.2.1 = s.1 ∧ τ.2.2.1 = T.1.2.2.1 ∧ τ.2.2.2.1 = T.1.2.2.2.1 ∧ τ.2.2.2.2.2.1 = T.1.2.2.2.2.2.1 + nI s.2 ∧ τ.2.2.2.2.2.2 = T.1.2.2.2.2.2.2) (fun j a b ⟨r1, r2, r3, r4, r5, r6⟩ => ah_step r1 r2 r3 r4 r5 r6) n 0 (T.1.2.1, 0) T.1 ⟨rfl, rfl, rfl, rfl, (Int32.add_zero _).symm, rfl⟩
          exact ⟨ht, _, fun o h' kk => b1 o h' (by rw [if_neg hz] at kk; exact kk), b2, b3, b4, rel⟩
      obtain ⟨ht, τ, c1, c2, c3, c4, r1, r2, r3, r4, r5, r6⟩ := days
      have hMt := hMs.keep c2
      have oτ : inP τ.1 τ.2.1 := c4.1
      have hsave : ∀ i, i < T.1.2.1.length → hI ht (m + 284) i = nI (T.1.2.1.getD i 0) := fun i hi => by rw [c2.ii (by unfold fV; omega)]; exact a3 i hi
      -- given back
      have U3 : Upf (fun i k => i = m ∧ (k = 20 ∨ k = 11 ∨ k = 12)) ht (setI (setI (setI ht m 20 (hI h m 20)) m 11 (hI h m 11)) m 12 (hI h m 12)) := ((Upf.set ⟨rfl, Or.inl rfl⟩).st ⟨rfl, Or.inr (Or.inl rfl)⟩).st ⟨rfl, Or.inr (Or.inr rfl)⟩
      have back : ∀ (x6 v : Int32), ∃ h1, J mX8_ahead (d + 10) 150 [some (.ref m), some (.int (nI n)), some (.int (nI w)), some (.int (hI h m 20)), some (.int (hI h m 11)), some (.int (hI h m 12)), some (.int x6), none] [.int v] ht (some (.int v)) h1 ∧ Upf (fVS m) h h1 ∧ MB h1 m T.1 := fun x6 v => by
        obtain ⟨h1, e1, e2, e3⟩ := v_give (d := d + 2) (m := m) (x1 := nI n) (x2 := nI w) (x3 := hI h m 20) (x4 := hI h m 11) (x5 := hI h m 12) (v := v) (L := T.1.2.1) l8 _ 0 (setI (setI (setI ht m 20 (hI h m 20)) m 11 (hI h m 11)) m 12 (hI h m 12)) rfl (Nat.zero_le _) (hMt.keep U3) (by rw [hI_setI, if_neg (by omega), hI_setI, if_neg (by omega), hI_setI, if_pos ⟨rfl, rfl⟩]; exact hB.sz) (fun i hi => by rw [U3.ii (by omega)]; exact hsave i hi) (fun i z => absurd z (Nat.not_lt_zero i))
        refine ⟨h1, k_X8_ahead_150 hMt.g e1, (((a2.mono (fun i k q => Or.inr (by unfold fS; omega))).tr (c2.mono (fun i k q => Or.inl q))).tr (U3.mono (fun i k q => Or.inl (by unfold fV; omega)))).tr (e2.mono (fun i k q => Or.inl (by unfold fV; omega))), ?_⟩
        have c31 : MC ht m T.1.1 := by rw [← r1]; exact c3.1
        obtain ⟨w1, w2, w3, w4, w5, w6⟩ := c3.2.2
        refine ⟨(c31.of (fun i k q => U3.ii (by omega))).of (fun i k q => e2.ii (by omega)), ⟨?_, l8, e3⟩, ?_⟩
        · rw [e2.ii (by omega), hI_setI, if_neg (by omega), hI_setI, if_neg (by omega), hI_setI, if_pos ⟨rfl, rfl⟩]
          exact hB.sz
        · refine ⟨?_, ?_, ?_, ?_, ?_, hB.2.2.2.2.2.2.2⟩
          · rw [e2.ii (by omega), U3.ii (by omega), w1]; exact congrArg nI r3
          · rw [e2.ii (by omega), U3.ii (by omega), w2]; exact congrArg nI r4
          · rw [e2.ii (by omega), hI_setI, if_neg (by omega), hI_setI, if_pos ⟨rfl, rfl⟩]; exact hB.da
          · rw [e2.ii (by omega), hI_setI, if_pos ⟨rfl, rfl⟩]; exact hB.fa
          · rw [e2.ii (by omega), U3.ii (by omega), w5]; exact r6
      have ent : ∀ {v : Int32}, (∃ x6 : Int32, ∀ h1, J mX8_ahead (d + 10) 150 [some (.ref m), some (.int (nI n)), some (.int (nI w)), some (.int (hI h m 20)), some (.int (hI h m 11)), some (.int (hI h m 12)), some (.int x6), none] [.int v] ht (some (.int v)) h1 → J mX8_ahead (d + 10) 108 [some (.ref m), some (.int (nI n)), some (.int (nI w)), some (.int (hI h m 20)), some (.int (hI h m 11)), some (.int (hI h m 12)), some (.int (nI (if T.1.1.length = 0 then 0 else n))), none] [] ht (some (.int v)) h1) → RfQ mX8_ahead (d + 10) [.ref m, .int (nI n), .int (nI w)] h m ko to T (.inr v) := fun ⟨x6, kk⟩ => by
        obtain ⟨h1, f1, f2, f3⟩ := back x6 _
        exact mqV hS0 ⟨h1, jm mi_X8_ahead (Nat.le_of_ble_eq_true rfl) ⟨.int, rfl, rfl⟩ rfl (k_X8_ahead_0 t_in_0_60 (Or.inl rfl) (fun z => absurd z (by rw [hb]; decide)) (fun _ => k_X8_ahead_12 t_in_0_3 (Or.inl rfl) (fun _ => k_X8_ahead_32 hM.g (a1 _ _ (k_X8_ahead_81 (c1 _ _ (kk h1 f1))))) (fun z => absurd z (by rw [hb2]; decide)))), f2, f3⟩
      rw [← r2]
      rcases le3 hw with rfl | rfl | rfl | rfl
      · rw [if_pos rfl, ← r1]
        exact ent ⟨_, fun h1 kk => k_X8_ahead_108 (fun z => absurd rfl z) (fun _ => k_X8_ahead_112 (u_heightNow hMt c3 oτ) (Or.inl rfl) hMt.g kk)⟩
      · rw [if_neg (by decide), if_pos rfl, ← c3.sz]
        exact ent ⟨_, fun h1 kk => k_X8_ahead_108 (fun _ => k_X8_ahead_119 (fun z => absurd rfl z) (fun _ => k_X8_ahead_124 hMt.g kk)) (fun z => absurd z (by decide))⟩
      · rw [if_neg (by decide), if_neg (by decide), if_pos rfl]
        have e : hI ht m 12 - hI h m 12 = nI (itF (ahS T.1) n 0 (T.1.2.1, 0)).2 := by rw [c3.fa, hB.fa, r5, Int32.add_comm, Int32.add_sub_cancel]
        rw [← e]
        exact ent ⟨_, fun h1 kk => k_X8_ahead_108 (fun _ => k_X8_ahead_119 (fun _ => k_X8_ahead_131 (fun z => absurd rfl z) (fun _ => k_X8_ahead_136 hMt.g kk)) (fun z => absurd z (by decide))) (fun z => absurd z (by decide))⟩
      · rw [if_neg (by decide), if_neg (by decide), if_neg (by decide)]
        exact ent ⟨_, fun h1 kk => k_X8_ahead_108 (fun _ => k_X8_ahead_119 (fun _ => k_X8_ahead_131 (fun _ => k_X8_ahead_146 (u_top hMt c3) (Or.inl rfl) hMt.g kk) (fun z => absurd z (by decide))) (fun z => absurd z (by decide))) (fun z => absurd z (by decide))⟩
end TA
