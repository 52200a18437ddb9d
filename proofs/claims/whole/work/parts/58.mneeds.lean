/-! the reference: needs, nerves, ahead -/
theorem set_pg {P : List Pers} {p : Nat} (hp : p < P.length) : P.set p (pg P p) = P := by
  unfold pg
  rw [List.getD_eq_getElem?_getD, List.getElem?_eq_getElem hp]
  simp
theorem set_okP {P : List Pers} {p : Nat} {q : Pers} (hP : ∀ r ∈ P, okP r) (hq : okP q) : ∀ r ∈ P.set p q, okP r := fun r hr => by
  rcases List.mem_or_eq_of_mem_set hr with z | z
  · exact hP r z
  · rw [z]; exact hq
theorem massL_set {P : List Pers} {p : Nat} {q : Pers} (hp : p < P.length) (hm : massP q = massP (pg P p)) (l : List Nat) : massL (P.set p q) l = massL P l := by
  unfold massL
  congr 1
  refine List.map_congr_left (fun x _ => ?_)
  rw [pg_set hp]
  by_cases h : x = p
  · rw [if_pos h, h, hm]
  · rw [if_neg h]
theorem tallL_set {P : List Pers} {p : Nat} {q : Pers} (hp : p < P.length) (hm : tallP q = tallP (pg P p)) (l : List Nat) : tallL (P.set p q) l = tallL P l := by
  unfold tallL
  congr 1
  refine List.map_congr_left (fun x _ => ?_)
  rw [pg_set hp]
  by_cases h : x = p
  · rw [if_pos h, h, hm]
  · rw [if_neg h]
section TN2
variable {d : Nat} {h h1 : PH} {m : Nat} {ko to : Option Nat} {T : TS}
theorem MC.trait {P : List Pers} {w v p : Nat} (hC : MC h m P) (hp : p < P.length) (hw : 2 ≤ w ∧ w ≤ 4) (hok : okP (setP (pg P p) w v)) (a : Upf (fun i k => i = m + 17 + w ∧ k = p) h h1) (hv : hI h1 (m + 17 + w) p = nI v) : MC h1 m (P.set p (setP (pg P p) w v)) := by
  obtain ⟨c1, c2, c3, c4⟩ := hC
  refine ⟨by rw [a.ii (by omega), List.length_set]; exact c1, by rw [List.length_set]; exact c2, set_okP c3 hok, fun x hx => ?_⟩
  rw [List.length_set] at hx
  obtain ⟨t0, t1, t2, t3, t4⟩ := c4 x hx
  rw [pg_set hp]
  by_cases hxp : x = p
  · subst hxp
    rw [if_pos rfl, a.ii (i := m + 17) (by omega), a.ii (i := m + 18) (by omega)]
    refine ⟨t0, t1, ?_⟩
    obtain ⟨w1, w2⟩ := hw
    rcases (by omega : w = 2 ∨ w = 3 ∨ w = 4) with rfl | rfl | rfl
    · rw [a.ii (i := m + 20) (by omega), a.ii (i := m + 21) (by omega)]
      exact ⟨hv, t3, t4⟩
    · rw [a.ii (i := m + 19) (by omega), a.ii (i := m + 21) (by omega)]
      exact ⟨t2, hv, t4⟩
    · rw [a.ii (i := m + 19) (by omega), a.ii (i := m + 20) (by omega)]
      exact ⟨t2, t3, hv⟩
  · rw [if_neg hxp, a.ii (i := m + 17) (by omega), a.ii (i := m + 18) (by omega), a.ii (i := m + 19) (by omega), a.ii (i := m + 20) (by omega), a.ii (i := m + 21) (by omega)]
    exact ⟨t0, t1, t2, t3, t4⟩
theorem MB.trait {σ : WS} {w v p : Nat} (hB : MB h m σ) (hp : p < σ.1.length) (hw : 2 ≤ w ∧ w ≤ 4) (hok : okP (setP (pg σ.1 p) w v)) (a : Upf (fun i k => i = m + 17 + w ∧ k = p) h h1) (hv : hI h1 (m + 17 + w) p = nI v) : MB h1 m (σ.1.set p (setP (pg σ.1 p) w v), σ.2) :=
  ⟨hB.1.trait hp hw hok a hv, hB.2.1.of (fun i k q => a.ii (by omega)), hB.2.2.of (fun i k q => a.ii (by omega))⟩
theorem setP_twice {P : List Pers} {p w u v : Nat} (hp : p < P.length) (hw : 2 ≤ w ∧ w ≤ 4) : (P.set p (setP (pg P p) w u)).set p (setP (pg (P.set p (setP (pg P p) w u)) p) w v) = P.set p (setP (pg P p) w v) := by
  rw [pg_set hp, if_pos rfl, List.set_set]
  congr 1
  obtain ⟨w1, w2⟩ := hw
  rcases (by omega : w = 2 ∨ w = 3 ∨ w = 4) with rfl | rfl | rfl <;> rfl
theorem dec_I (n : Nat) : nI n + (-1 : Int32) = sI ((n : Int) - 1) := by rw [neg1_sI, nI_sI, sI_add]; rfl
theorem v_needs {σ : WS} {p k : Nat} (hP : ∀ q ∈ σ.1, okP q) (n8 : σ.1.length ≤ 8) (o1 : inP σ.1 σ.2.1) (hp : p < σ.1.length) (hk : k < σ.2.1.length) (hkp : σ.2.1.getD k 0 = p) : ∀ n u (h : PH), n ≤ 100 → ModH h m → MB h m (σ.1.set p (setP (pg σ.1 p) 3 u), σ.2) →
    ∃ h1, J mX8_needs (d + 4) 50 [some (.ref m), some (.int (nI p)), some (.int (nI k)), some (.int (nI (pg σ.1 p).2.2.2.1)), some (.int (oI (firstFrom (fun s => decide (massL σ.1 (σ.2.1.drop (k + 1)) ≤ bearP (setP (pg σ.1 p) 3 s))) (100 - n) n))), some (.int (sI ((n : Int) - 1)))] [] h (some (.int (oI (firstFrom (fun s => decide (massL σ.1 (σ.2.1.drop (k + 1)) ≤ bearP (setP (pg σ.1 p) 3 s))) 100 0)))) h1 ∧ Upf (fV m) h h1 ∧ MB h1 m σ := by
  have hok := pg_ok hP p
  have ci : (nI p).toNatClampNeg = p := nI_clamp (by omega)
  -- one writing
  have put : ∀ (u v : Nat) (h : PH), v ≤ 99 → MB h m (σ.1.set p (setP (pg σ.1 p) 3 u), σ.2) → Upf (fun i k => i = m + 17 + 3 ∧ k = p) h (setI h (m + 20) (nI p).toNatClampNeg (nI v)) ∧ MB (setI h (m + 20) (nI p).toNatClampNeg (nI v)) m (σ.1.set p (setP (pg σ.1 p) 3 v), σ.2) := fun u v h hv hB => by
    have U : Upf (fun i k => i = m + 17 + 3 ∧ k = p) h (setI h (m + 20) (nI p).toNatClampNeg (nI v)) := by rw [ci]; exact Upf.set ⟨rfl, rfl⟩
    refine ⟨U, ?_⟩
    have hp2 : p < (σ.1.set p (setP (pg σ.1 p) 3 u)).length := by rw [List.length_set]; exact hp
    have := hB.trait (p := p) (w := 3) (v := v) hp2 (by omega) (by
      show okP (setP (pg (σ.1.set p (setP (pg σ.1 p) 3 u)) p) 3 v)
      rw [pg_set hp, if_pos rfl]
      exact ⟨hok.1, hok.2.1, hok.2.2.1, hv, hok.2.2.2.2⟩) U (by rw [ci, hI_setI]; exact if_pos ⟨rfl, rfl⟩)
    have this : MB (setI h (m + 20) (nI p).toNatClampNeg (nI v)) m ((σ.1.set p (setP (pg σ.1 p) 3 u)).set p (setP (pg (σ.1.set p (setP (pg σ.1 p) 3 u)) p) 3 v), σ.2) := this
    rw [setP_twice hp (by omega)] at this
    exact this
  intro n
  induction n with
  | zero =>
    intro u h hn hM hB
    obtain ⟨U, B⟩ := put u _ h hok.2.2.2.1 hB
    have e : setP (pg σ.1 p) 3 (pg σ.1 p).2.2.2.1 = pg σ.1 p := rfl
    rw [e, set_pg hp] at B
    exact ⟨_, k_X8_needs_50 (fun _ => k_X8_needs_86 hM.g hM.r17 hM.g17 (vp_in_nI (by omega) (by omega))) (fun q => absurd (by decide) q), U.mono (fun i k q => by unfold fV; omega), B⟩
  | succ n ih =>
    intro u h hn hM hB
    obtain ⟨U, B⟩ := put u n h (by omega) hB
    have M := hM.keep U
    have hin : inP (σ.1.set p (setP (pg σ.1 p) 3 n)) σ.2.1 := inP_set o1
    have hc := u_crushedAt (d := d) M B hin hk
    have hc : JMt mX8_crushedAt (some .boolean) (d + 3) [.ref m, .int (nI k)] (setI h (m + 20) (nI p).toNatClampNeg (nI n)) (some (.int (bI (crushB (σ.1.set p (setP (pg σ.1 p) 3 n)) σ.2.1 k)))) (setI h (m + 20) (nI p).toNatClampNeg (nI n)) := hc
    have ec : crushB (σ.1.set p (setP (pg σ.1 p) 3 n)) σ.2.1 k = !decide (massL σ.1 (σ.2.1.drop (k + 1)) ≤ bearP (setP (pg σ.1 p) 3 n)) := by
      unfold crushB
      rw [massL_set hp (by rfl), hkp, pg_set hp, if_pos rfl, ← decide_not]
      exact decide_eq_decide.mpr (by omega)
    rw [ec] at hc
    obtain ⟨h1, b1, b2, b3⟩ := ih n (setI h (m + 20) (nI p).toNatClampNeg (nI n)) (by omega) M B
    have es : sI (((n + 1 : Nat) : Int) - 1) = nI n := by rw [nI_sI]; congr 1; omega
    have ef : firstFrom (fun s => decide (massL σ.1 (σ.2.1.drop (k + 1)) ≤ bearP (setP (pg σ.1 p) 3 s))) (100 - n) n = if decide (massL σ.1 (σ.2.1.drop (k + 1)) ≤ bearP (setP (pg σ.1 p) 3 n)) = true then some n else firstFrom (fun s => decide (massL σ.1 (σ.2.1.drop (k + 1)) ≤ bearP (setP (pg σ.1 p) 3 s))) (100 - (n + 1)) (n + 1) := by
      rw [show 100 - n = (100 - (n + 1)) + 1 by omega]
      rfl
    rw [es]
    refine ⟨h1, k_X8_needs_50 (fun q => absurd q (nI_lt0 (by omega))) (fun _ => k_X8_needs_55 hM.g hM.r17 hM.g17 (vp_in_nI (by omega) (by omega)) hc (Or.inl rfl) (fun q => ?_) (fun q => ?_)), (U.mono (fun i k q => by unfold fV; omega)).tr b2, b3⟩
    · have q := bI_0.mp q
      rw [Bool.not_eq_false'] at q
      rw [if_pos q] at ef
      rw [ef] at b1
      refine k_X8_needs_76 (k_X8_needs_78 ?_)
      rw [dec_I]
      exact b1
    · have q := bI_n0.mp q
      rw [Bool.not_eq_true'] at q
      rw [if_neg (by rw [q]; decide)] at ef
      rw [ef] at b1
      refine k_X8_needs_71 (k_X8_needs_78 ?_)
      rw [dec_I]
      exact b1
theorem m_needs {p : Int32} (hS : MS h m ko to T) : RfQ mX8_needs (d + 10) [.ref m, .int p] h m ko to T (q_needs T.1 p) := by
  have hS0 := hS
  obtain ⟨hT, hM, hB, hTp, hRf, hSh, hK, hTr⟩ := hS
  obtain ⟨o1, o2, o3, o4, o5, o6⟩ := hT.1
  have n8 := hB.n8
  have l8 := hB.l8
  unfold q_needs
  cases hp : hasB T.1.1.length p with
  | false =>
    rw [if_neg (by decide)]
    exact mqR (k := 0) (by omega) hS0 (fun h1 r e => jm mi_X8_needs (Nat.le_of_ble_eq_true rfl) ⟨.int, rfl, rfl⟩ rfl (k_X8_needs_0 (t_isPerson hM hB) (Or.inl rfl) hM.g (fun z => absurd z (by rw [hp]; decide)) (fun _ => k_X8_needs_9 r (Or.inl e) hM.g)))
  | true =>
    rw [if_pos rfl]
    obtain ⟨i, hi, rfl⟩ := hasB_nI hp
    rw [nn_I (by omega)]
    have hc := u_courseOf (d := d + 9) (x := i) hM hB o1 (by omega)
    cases hk : courseF T.1.2.1 i 0 with
    | none =>
      rw [hk] at hc
      exact mqR (k := 3) (by omega) hS0 (fun h1 r e => jm mi_X8_needs (Nat.le_of_ble_eq_true rfl) ⟨.int, rfl, rfl⟩ rfl (k_X8_needs_0 (t_isPerson hM hB) (Or.inl rfl) hM.g (fun _ => k_X8_needs_17 hc (Or.inl rfl) hM.g (fun z => absurd rfl z) (fun _ => k_X8_needs_28 r (Or.inl e) hM.g)) (fun z => absurd z (by rw [hp]; decide))))
    | some k =>
      rw [hk] at hc
      obtain ⟨hkl, hkx⟩ := courseF_lt hk
      have B0 : MB h m (T.1.1.set i (setP (pg T.1.1 i) 3 (pg T.1.1 i).2.2.2.1), T.1.2) := by
        rw [show setP (pg T.1.1 i) 3 (pg T.1.1 i).2.2.2.1 = pg T.1.1 i from rfl, set_pg hi]
        exact hB
      obtain ⟨h1, a1, a2, a3⟩ := v_needs (d := d + 6) (m := m) hB.ok n8 o1 hi hkl hkx 100 _ h (Nat.le_refl _) hM B0
      exact mqV hS0 ⟨h1, jm mi_X8_needs (Nat.le_of_ble_eq_true rfl) ⟨.int, rfl, rfl⟩ rfl (k_X8_needs_0 (t_isPerson hM hB) (Or.inl rfl) hM.g (fun _ => k_X8_needs_17 hc (Or.inl rfl) hM.g (fun _ => k_X8_needs_36 hM.g hM.r17 hM.g17 (vp_in_nI (by omega) (by omega)) (by rw [nI_clamp (by omega), hB.sr hi]; exact a1)) (fun z => absurd z (nI_nneg1 (n := k) (by omega)))) (fun z => absurd z (by rw [hp]; decide))), a2.mono (fun i k q => Or.inl q), a3⟩
theorem v_nerves {σ : WS} {p k : Nat} (hP : ∀ q ∈ σ.1, okP q) (n8 : σ.1.length ≤ 8) (o1 : inP σ.1 σ.2.1) (hp : p < σ.1.length) (hk : k < σ.2.1.length) (hkp : σ.2.1.getD k 0 = p) : ∀ n u (h : PH), n ≤ 41 → ModH h m → MB h m (σ.1.set p (setP (pg σ.1 p) 4 u), σ.2) →
    ∃ h1, J mX8_nerves (d + 4) 50 [some (.ref m), some (.int (nI p)), some (.int (nI k)), some (.int (nI (pg σ.1 p).2.2.2.2)), some (.int (oI (firstFrom (fun s => decide (tallL σ.1 (σ.2.1.take k) * σ.2.2.1 / 4 ≤ s)) (41 - n) n))), some (.int (sI ((n : Int) - 1)))] [] h (some (.int (oI (firstFrom (fun s => decide (tallL σ.1 (σ.2.1.take k) * σ.2.2.1 / 4 ≤ s)) 41 0)))) h1 ∧ Upf (fV m) h h1 ∧ MB h1 m σ := by
  have hok := pg_ok hP p
  have ci : (nI p).toNatClampNeg = p := nI_clamp (by omega)
  have put : ∀ (u v : Nat) (h : PH), v ≤ 40 → MB h m (σ.1.set p (setP (pg σ.1 p) 4 u), σ.2) → Upf (fun i k => i = m + 17 + 4 ∧ k = p) h (setI h (m + 21) (nI p).toNatClampNeg (nI v)) ∧ MB (setI h (m + 21) (nI p).toNatClampNeg (nI v)) m (σ.1.set p (setP (pg σ.1 p) 4 v), σ.2) := fun u v h hv hB => by
    have U : Upf (fun i k => i = m + 17 + 4 ∧ k = p) h (setI h (m + 21) (nI p).toNatClampNeg (nI v)) := by rw [ci]; exact Upf.set ⟨rfl, rfl⟩
    refine ⟨U, ?_⟩
    have hp2 : p < (σ.1.set p (setP (pg σ.1 p) 4 u)).length := by rw [List.length_set]; exact hp
    have := hB.trait (p := p) (w := 4) (v := v) hp2 (by omega) (by
      show okP (setP (pg (σ.1.set p (setP (pg σ.1 p) 4 u)) p) 4 v)
      rw [pg_set hp, if_pos rfl]
      exact ⟨hok.1, hok.2.1, hok.2.2.1, hok.2.2.2.1, hv⟩) U (by rw [ci, hI_setI]; exact if_pos ⟨rfl, rfl⟩)
    have this : MB (setI h (m + 21) (nI p).toNatClampNeg (nI v)) m ((σ.1.set p (setP (pg σ.1 p) 4 u)).set p (setP (pg (σ.1.set p (setP (pg σ.1 p) 4 u)) p) 4 v), σ.2) := this
    rw [setP_twice hp (by omega)] at this
    exact this
  intro n
  induction n with
  | zero =>
    intro u h hn hM hB
    obtain ⟨U, B⟩ := put u _ h hok.2.2.2.2 hB
    have e : setP (pg σ.1 p) 4 (pg σ.1 p).2.2.2.2 = pg σ.1 p := rfl
    rw [e, set_pg hp] at B
    exact ⟨_, k_X8_nerves_50 (fun _ => k_X8_nerves_86 hM.g hM.r18 hM.g18 (vp_in_nI (by omega) (by omega))) (fun q => absurd (by decide) q), U.mono (fun i k q => by unfold fV; omega), B⟩
  | succ n ih =>
    intro u h hn hM hB
    obtain ⟨U, B⟩ := put u n h (by omega) hB
    have M := hM.keep U
    have hin : inP (σ.1.set p (setP (pg σ.1 p) 4 n)) σ.2.1 := inP_set o1
    have hc := u_shakesAt (d := d + 1) M B hin hk
    have hc : JMt mX8_shakesAt (some .boolean) (d + 3) [.ref m, .int (nI k)] (setI h (m + 21) (nI p).toNatClampNeg (nI n)) (some (.int (bI (shakeB (σ.1.set p (setP (pg σ.1 p) 4 n)) σ.2.2.1 σ.2.1 k)))) (setI h (m + 21) (nI p).toNatClampNeg (nI n)) := hc
    have ec : shakeB (σ.1.set p (setP (pg σ.1 p) 4 n)) σ.2.2.1 σ.2.1 k = !decide (tallL σ.1 (σ.2.1.take k) * σ.2.2.1 / 4 ≤ n) := by
      unfold shakeB
      rw [tallL_set hp (by rfl), hkp, pg_set hp, if_pos rfl, ← decide_not]
      exact decide_eq_decide.mpr (by show n < _ ↔ _; omega)
    rw [ec] at hc
    obtain ⟨h1, b1, b2, b3⟩ := ih n (setI h (m + 21) (nI p).toNatClampNeg (nI n)) (by omega) M B
    have es : sI (((n + 1 : Nat) : Int) - 1) = nI n := by rw [nI_sI]; congr 1; omega
    have ef : firstFrom (fun s => decide (tallL σ.1 (σ.2.1.take k) * σ.2.2.1 / 4 ≤ s)) (41 - n) n = if decide (tallL σ.1 (σ.2.1.take k) * σ.2.2.1 / 4 ≤ n) = true then some n else firstFrom (fun s => decide (tallL σ.1 (σ.2.1.take k) * σ.2.2.1 / 4 ≤ s)) (41 - (n + 1)) (n + 1) := by
      rw [show 41 - n = (41 - (n + 1)) + 1 by omega]
      rfl
    rw [es]
    refine ⟨h1, k_X8_nerves_50 (fun q => absurd q (nI_lt0 (by omega))) (fun _ => k_X8_nerves_55 hM.g hM.r18 hM.g18 (vp_in_nI (by omega) (by omega)) hc (Or.inl rfl) (fun q => ?_) (fun q => ?_)), (U.mono (fun i k q => by unfold fV; omega)).tr b2, b3⟩
    · have q := bI_0.mp q
      rw [Bool.not_eq_false'] at q
      rw [if_pos q] at ef
      rw [ef] at b1
      refine k_X8_nerves_76 (k_X8_nerves_78 ?_)
      rw [dec_I]
      exact b1
    · have q := bI_n0.mp q
      rw [Bool.not_eq_true'] at q
      rw [if_neg (by rw [q]; decide)] at ef
      rw [ef] at b1
      refine k_X8_nerves_71 (k_X8_nerves_78 ?_)
      rw [dec_I]
      exact b1
theorem first_ge {x : Nat} : ∀ n j, firstFrom (fun s => decide (x ≤ s)) n j = if x < j + n then (if n = 0 then none else some (max x j)) else none
  | 0, j => by unfold firstFrom; split <;> rfl
  | n + 1, j => by
    unfold firstFrom
    by_cases h : x ≤ j
    · rw [if_pos (by rw [decide_eq_true_eq]; exact h), if_pos (by omega), if_neg (by omega), Nat.max_eq_right h]
    · rw [if_neg (by rw [decide_eq_true_eq]; exact h), first_ge n (j + 1)]
      by_cases h2 : x < j + 1 + n
      · rw [if_pos h2, if_neg (by omega), if_pos (by omega), if_neg (by omega), Nat.max_eq_left (by omega), Nat.max_eq_left (by omega)]
      · rw [if_neg h2, if_neg (by omega)]
theorem m_nerves {p : Int32} (hS : MS h m ko to T) : RfQ mX8_nerves (d + 10) [.ref m, .int p] h m ko to T (q_nerves T.1 p) := by
  have hS0 := hS
  obtain ⟨hT, hM, hB, hTp, hRf, hSh, hK, hTr⟩ := hS
  obtain ⟨o1, o2, o3, o4, o5, o6⟩ := hT.1
  have n8 := hB.n8
  have l8 := hB.l8
  unfold q_nerves
  cases hp : hasB T.1.1.length p with
  | false =>
    rw [if_neg (by decide)]
    exact mqR (k := 0) (by omega) hS0 (fun h1 r e => jm mi_X8_nerves (Nat.le_of_ble_eq_true rfl) ⟨.int, rfl, rfl⟩ rfl (k_X8_nerves_0 (t_isPerson hM hB) (Or.inl rfl) hM.g (fun z => absurd z (by rw [hp]; decide)) (fun _ => k_X8_nerves_9 r (Or.inl e) hM.g)))
  | true =>
    rw [if_pos rfl]
    obtain ⟨i, hi, rfl⟩ := hasB_nI hp
    rw [nn_I (by omega)]
    have hc := u_courseOf (d := d + 9) (x := i) hM hB o1 (by omega)
    cases hk : courseF T.1.2.1 i 0 with
    | none =>
      rw [hk] at hc
      exact mqR (k := 3) (by omega) hS0 (fun h1 r e => jm mi_X8_nerves (Nat.le_of_ble_eq_true rfl) ⟨.int, rfl, rfl⟩ rfl (k_X8_nerves_0 (t_isPerson hM hB) (Or.inl rfl) hM.g (fun _ => k_X8_nerves_17 hc (Or.inl rfl) hM.g (fun z => absurd rfl z) (fun _ => k_X8_nerves_28 r (Or.inl e) hM.g)) (fun z => absurd z (by rw [hp]; decide))))
    | some k =>
      rw [hk] at hc
      obtain ⟨hkl, hkx⟩ := courseF_lt hk
      have B0 : MB h m (T.1.1.set i (setP (pg T.1.1 i) 4 (pg T.1.1 i).2.2.2.2), T.1.2) := by
        rw [show setP (pg T.1.1 i) 4 (pg T.1.1 i).2.2.2.2 = pg T.1.1 i from rfl, set_pg hi]
        exact hB
      obtain ⟨h1, a1, a2, a3⟩ := v_nerves (d := d + 6) (m := m) hB.ok n8 o1 hi hkl hkx 41 _ h (Nat.le_refl _) hM B0
      have e : oI (firstFrom (fun s => decide (tallL T.1.1 (T.1.2.1.take k) * T.1.2.2.1 / 4 ≤ s)) 41 0) = if tallL T.1.1 (T.1.2.1.take k) * T.1.2.2.1 / 4 ≤ 40 then nI (tallL T.1.1 (T.1.2.1.take k) * T.1.2.2.1 / 4) else -1 := by
        rw [first_ge]
        by_cases z : tallL T.1.1 (T.1.2.1.take k) * T.1.2.2.1 / 4 ≤ 40
        · rw [if_pos (by omega), if_neg (by decide), if_pos z, Nat.max_zero]
          rfl
        · rw [if_neg (by omega), if_neg z]
          rfl
      rw [e] at a1
      exact mqV hS0 ⟨h1, jm mi_X8_nerves (Nat.le_of_ble_eq_true rfl) ⟨.int, rfl, rfl⟩ rfl (k_X8_nerves_0 (t_isPerson hM hB) (Or.inl rfl) hM.g (fun _ => k_X8_nerves_17 hc (Or.inl rfl) hM.g (fun _ => k_X8_nerves_36 hM.g hM.r18 hM.g18 (vp_in_nI (by omega) (by omega)) (by rw [nI_clamp (by omega), hB.ne hi]; exact a1)) (fun z => absurd z (nI_nneg1 (n := k) (by omega)))) (fun z => absurd z (by rw [hp]; decide))), a2.mono (fun i k q => Or.inl q), a3⟩
end TN2
