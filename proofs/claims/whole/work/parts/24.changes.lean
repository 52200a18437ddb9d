/-! what changes: which cells' ints may differ -/
def Upd (S : Nat → Prop) (h h' : PH) : Prop := hn h' = hn h ∧ hs h' = hs h ∧ hT h' = hT h ∧ hR h' = hR h ∧ hL h' = hL h ∧ ∀ i, ¬ S i → hI h' i = hI h i
theorem Upd.rf {S : Nat → Prop} {h : PH} : Upd S h h := ⟨rfl, rfl, rfl, rfl, rfl, fun _ _ => rfl⟩
theorem Upd.tr {S : Nat → Prop} {h h1 h2 : PH} (a : Upd S h h1) (b : Upd S h1 h2) : Upd S h h2 := by
  obtain ⟨a1, a2, a3, a4, a5, a6⟩ := a
  obtain ⟨b1, b2, b3, b4, b5, b6⟩ := b
  exact ⟨b1.trans a1, b2.trans a2, b3.trans a3, b4.trans a4, b5.trans a5, fun i hi => (b6 i hi).trans (a6 i hi)⟩
theorem Upd.mono {S S' : Nat → Prop} {h h1 : PH} (a : Upd S h h1) (hs : ∀ i, S i → S' i) : Upd S' h h1 := by
  obtain ⟨a1, a2, a3, a4, a5, a6⟩ := a
  exact ⟨a1, a2, a3, a4, a5, fun i hi => a6 i (fun q => hi (hs i q))⟩
theorem Upd.set {S : Nat → Prop} {h : PH} {i k : Nat} {v : Int32} (hi : S i) : Upd S h (setI h i k v) :=
  ⟨rfl, rfl, rfl, rfl, rfl, fun j hj => by funext q; rw [hI_setI, if_neg (fun e => hj (by rw [e.1]; exact hi))]⟩
theorem Upd.gg {S : Nat → Prop} {h h1 : PH} (a : Upd S h h1) (i : Nat) : hG h1 i = hG h i := by
  obtain ⟨a1, -, a3, -⟩ := a
  unfold hG
  rw [a1, a3]
theorem Upd.rr {S : Nat → Prop} {h h1 : PH} (a : Upd S h h1) (i k : Nat) : hR h1 i k = hR h i k := by rw [a.2.2.2.1]
theorem CrowdS.keep {S : Nat → Prop} {h h1 : PH} {c f : Nat} {P : List Pers} (hC : CrowdS h c f P) (a : Upd S h h1) (hc : ¬ S c) (hf : ¬ S f) : CrowdS h1 c f P := by
  obtain ⟨c1, c2, c3, c4, c5, c6, c7⟩ := hC
  have e1 := a.2.2.2.2.2 c hc
  have e2 := a.2.2.2.2.2 f hf
  exact ⟨by rw [a.gg]; exact c1, by rw [a.rr]; exact c2, by rw [a.gg]; exact c3, by rw [e1]; exact c4, c5, fun p hp w hw => by rw [e2]; exact c6 p hp w hw, c7⟩
theorem PileS.keep {S : Nat → Prop} {h h1 : PH} {p c o : Nat} {L : List Nat} (hP : PileS h p c o L) (a : Upd S h h1) (hp : ¬ S p) (ho : ¬ S o) : PileS h1 p c o L := by
  obtain ⟨p1, p2, p3, p4, p5, p6, p7⟩ := hP
  have e1 := a.2.2.2.2.2 p hp
  have e2 := a.2.2.2.2.2 o ho
  exact ⟨by rw [a.gg]; exact p1, by rw [a.rr]; exact p2, by rw [a.rr]; exact p3, by rw [a.gg]; exact p4, by rw [e1]; exact p5, p6, fun k hk => by rw [e2]; exact p7 k hk⟩
/-- x put at place k; what stands at k taken out -/
def insL (L : List Nat) (k x : Nat) : List Nat := L.take k ++ x :: L.drop k
def delL (L : List Nat) (k : Nat) : List Nat := L.take k ++ L.drop (k + 1)
theorem insL_len {L : List Nat} {k x : Nat} (hk : k ≤ L.length) : (insL L k x).length = L.length + 1 := by simp [insL]; omega
theorem delL_len {L : List Nat} {k : Nat} (hk : k < L.length) : (delL L k).length = L.length - 1 := by simp [delL]; omega
theorem insL_get {L : List Nat} {k x i : Nat} (hk : k ≤ L.length) : (insL L k x).getD i 0 = if i < k then L.getD i 0 else if i = k then x else L.getD (i - 1) 0 := by
  unfold insL
  simp only [List.getD_eq_getElem?_getD]
  by_cases h1 : i < k
  · rw [if_pos h1, List.getElem?_append_left (by rw [List.length_take]; omega), List.getElem?_take, if_pos h1]
  · rw [if_neg h1, List.getElem?_append_right (by rw [List.length_take]; omega), List.length_take, show min k L.length = k by omega]
    by_cases h2 : i = k
    · rw [if_pos h2, h2, Nat.sub_self]; rfl
    · rw [if_neg h2, show i - k = (i - k - 1) + 1 by omega, List.getElem?_cons_succ, List.getElem?_drop]
      congr 2
      omega
theorem delL_get {L : List Nat} {k i : Nat} (hk : k ≤ L.length) : (delL L k).getD i 0 = if i < k then L.getD i 0 else L.getD (i + 1) 0 := by
  unfold delL
  simp only [List.getD_eq_getElem?_getD]
  by_cases h1 : i < k
  · rw [if_pos h1, List.getElem?_append_left (by rw [List.length_take]; omega), List.getElem?_take, if_pos h1]
  · rw [if_neg h1, List.getElem?_append_right (by rw [List.length_take]; omega), List.length_take, show min k L.length = k by omega, List.getElem?_drop]
    congr 2
    omega
theorem insL_in {P : List Pers} {L : List Nat} {k x : Nat} (hL : inP P L) (hx : x < P.length) : inP P (insL L k x) := by
  intro y hy
  unfold insL at hy
  rcases List.mem_append.mp hy with h | h
  · exact hL y (List.mem_of_mem_take h)
  · rcases List.mem_cons.mp h with rfl | h
    · exact hx
    · exact hL y (List.mem_of_mem_drop h)
theorem delL_in {P : List Pers} {L : List Nat} {k : Nat} (hL : inP P L) : inP P (delL L k) := by
  intro y hy
  unfold delL at hy
  rcases List.mem_append.mp hy with h | h
  · exact hL y (List.mem_of_mem_take h)
  · exact hL y (List.mem_of_mem_drop h)
section CH
variable {d : Nat} {h : PH} {c f p o : Nat} {P : List Pers} {L : List Nat}
theorem pile_ne (hP : PileS h p c o L) : p ≠ o := fun e => by
  have h1 := hP.1
  have h2 := hP.2.2.2.1
  rw [e, h2] at h1
  cases h1
/-- the cells of a pile -/
def pc2 (p o : Nat) : Nat → Prop := fun i => i = p ∨ i = o
theorem l_insert {k x len : Nat} (hlen : len < 8) (hpo : p ≠ o) : ∀ n (h : PH), k + n ≤ len → hG h p = (2, 3) → hR h p 1 = some o → hG h o = (20, 8) → hI h p 2 = nI len →
    ∃ h', J mX2_insert (d + 1) 30 [some (.ref p), some (.int (nI k)), some (.int (nI x)), some (.int (nI (k + n)))] [] h none h' ∧ Upd (pc2 p o) h h' ∧ hI h' p 2 = nI (len + 1) ∧ ∀ i, hI h' o i = if i = k then nI x else if k < i ∧ i ≤ k + n then hI h o (i - 1) else hI h o i := by
  intro n
  induction n with
  | zero =>
    intro h hk p1 p3 p4 p5
    have hop : ¬ o = p := fun e => hpo e.symm
    refine ⟨_, k_X2_insert_30 (fun _ => k_X2_insert_59 p1 p3 (t_put (k := k) p4 (by omega) (by omega)) (Or.inl rfl) p1) (fun q => absurd (nI_le (by omega) (by omega)) q), (Upd.set (Or.inr rfl)).tr (Upd.set (Or.inl rfl)), ?_, fun i => ?_⟩
    · rw [hI_setI, if_pos ⟨rfl, rfl⟩, hI_setI, if_neg (fun e => hpo e.1), p5, nI_1]
    · rw [hI_setI, if_neg (fun e => hop e.1), hI_setI]
      by_cases hi : i = k
      · rw [if_pos ⟨rfl, hi⟩, if_pos hi]
      · rw [if_neg (fun e => hi e.2), if_neg hi, if_neg (by omega)]
  | succ n ih =>
    intro h hk p1 p3 p4 p5
    have e1 : nI (k + (n + 1)) - (1 : Int32) = nI (k + n) := nI_pred (k + n)
    have hop : ¬ o = p := fun e => hpo e.symm
    obtain ⟨h', hJ, hU, hs, hc⟩ := ih (setI h o (k + (n + 1)) (hI h o (k + n))) (by omega) p1 p3 p4 (by rw [hI_setI, if_neg (fun e => hpo e.1)]; exact p5)
    refine ⟨h', k_X2_insert_30 (fun q => absurd q (nI_ge (by omega) (by omega))) (fun _ => k_X2_insert_35 p1 p3 (by rw [e1]; exact t_pick (k := k + n) p4 (by omega) (by omega)) (Or.inl rfl) (t_put (k := k + (n + 1)) p4 (by omega) (by omega)) (Or.inl rfl) ?_), (Upd.set (Or.inr rfl)).tr hU, hs, fun i => ?_⟩
    · rw [show k + (n + 1) = (k + n) + 1 from rfl, pk_m1]
      exact hJ
    · rw [hc i]
      by_cases hi : i = k
      · rw [if_pos hi, if_pos hi]
      · rw [if_neg hi, if_neg hi]
        by_cases h2 : k < i ∧ i ≤ k + n
        · rw [if_pos h2, if_pos ⟨h2.1, by omega⟩, hI_setI, if_neg (fun e => by omega)]
        · rw [if_neg h2, hI_setI]
          by_cases h3 : i = k + (n + 1)
          · rw [if_pos ⟨rfl, h3⟩, if_pos ⟨by omega, by omega⟩]
            congr 1
            omega
          · rw [if_neg (fun e => h3 e.2), if_neg (by omega)]
theorem t_insert {k x : Nat} (hP : PileS h p c o L) (hk : k ≤ L.length) (hl : L.length < 8) : ∃ h', JMt mX2_insert none (d + 1) [.ref p, .int (nI k), .int (nI x)] h none h' ∧ Upd (pc2 p o) h h' ∧ PileS h' p c o (insL L k x) := by
  have hpo := pile_ne hP
  obtain ⟨p1, p2, p3, p4, p5, p6, p7⟩ := hP
  obtain ⟨h', hJ, hU, hs, hc⟩ := l_insert (d := d) (k := k) (x := x) (len := L.length) hl hpo (L.length - k) h (by omega) p1 p3 p4 p5
  rw [show k + (L.length - k) = L.length by omega] at hJ
  refine ⟨h', jm mi_X2_insert (Nat.le_of_ble_eq_true rfl) rfl rfl (k_X2_insert_0 (fun q => absurd q (nI_lt0 (by omega))) (fun _ => k_X2_insert_4 p1 (fun q => absurd q (by rw [p5]; exact nI_nlt hk (by omega))) (fun _ => k_X2_insert_12 p1 p3 p4 (fun _ => k_X2_insert_25 p1 (by rw [p5]; exact hJ)) (fun q => absurd (by rw [p5]; exact nI_lt (a := L.length) (b := 8) hl (by omega)) q)))), hU, by rw [hU.gg]; exact p1, by rw [hU.rr]; exact p2, by rw [hU.rr]; exact p3, by rw [hU.gg]; exact p4, by rw [hs, insL_len hk], by rw [insL_len hk]; omega, fun i hi => ?_⟩
  rw [insL_len hk] at hi
  rw [hc i, insL_get hk]
  by_cases h1 : i < k
  · rw [if_neg (by omega), if_neg (by omega), if_pos h1, p7 i (by omega)]
  · rw [if_neg h1]
    by_cases h2 : i = k
    · rw [if_pos h2, if_pos h2]
    · rw [if_neg h2, if_neg h2, if_pos ⟨by omega, by omega⟩, p7 (i - 1) (by omega)]
theorem t_push {x : Nat} (hP : PileS h p c o L) (hl : L.length < 8) : ∃ h', JMt mX2_push none (d + 2) [.ref p, .int (nI x)] h none h' ∧ Upd (pc2 p o) h h' ∧ PileS h' p c o (insL L L.length x) := by
  obtain ⟨h', hM, hU, hP'⟩ := t_insert (d := d) (x := x) hP (Nat.le_refl _) hl
  refine ⟨h', jm mi_X2_push (Nat.le_of_ble_eq_true rfl) rfl rfl (k_X2_push_0 hP.1 ?_ (Or.inl hU.1)), hU, hP'⟩
  rw [hP.2.2.2.2.1]
  exact hM
theorem l_removeAt {k len : Nat} (hlen : len ≤ 8) (hk : k < len) (hpo : p ≠ o) : ∀ n j (h : PH), len - 1 - j = n → k ≤ j → j ≤ len - 1 → hG h p = (2, 3) → hR h p 1 = some o → hG h o = (20, 8) → hI h p 2 = nI len →
    ∃ h', J mX2_removeAt (d + 1) 15 [some (.ref p), some (.int (nI k)), some (.int (nI j))] [] h none h' ∧ Upd (pc2 p o) h h' ∧ hI h' p 2 = nI (len - 1) ∧ ∀ i, hI h' o i = if j ≤ i ∧ i < len - 1 then hI h o (i + 1) else hI h o i := by
  have el : nI len - (1 : Int32) = nI (len - 1) := by rw [show (1 : Int32) = nI 1 from rfl, pk_sub (by omega)]
  have hop : ¬ o = p := fun e => hpo e.symm
  intro n
  induction n with
  | zero =>
    intro j h hn hkj hj p1 p3 p4 p5
    refine ⟨_, k_X2_removeAt_15 p1 (fun _ => k_X2_removeAt_49 p1) (fun q => absurd (by rw [p5, el]; exact nI_le (by omega) (by omega)) q), Upd.set (Or.inl rfl), ?_, fun i => ?_⟩
    · rw [hI_setI, if_pos ⟨rfl, rfl⟩, p5, el]
    · rw [hI_setI, if_neg (fun e => hop e.1), if_neg (by omega)]
  | succ n ih =>
    intro j h hn hkj hj p1 p3 p4 p5
    obtain ⟨h', hJ, hU, hs, hc⟩ := ih (j + 1) (setI h o j (hI h o (j + 1))) (by omega) (by omega) (by omega) p1 p3 p4 (by rw [hI_setI, if_neg (fun e => hpo e.1)]; exact p5)
    refine ⟨h', k_X2_removeAt_15 p1 (fun q => absurd q (by rw [p5, el]; exact nI_ge (by omega) (by omega))) (fun _ => k_X2_removeAt_25 p1 p3 (by rw [show (1 : Int32) = nI 1 from rfl, nI_add]; exact t_pick (k := j + 1) p4 (by omega) (by omega)) (Or.inl rfl) (t_put (k := j) p4 (by omega) (by omega)) (Or.inl rfl) ?_), (Upd.set (Or.inr rfl)).tr hU, hs, fun i => ?_⟩
    · rw [nI_1]
      exact hJ
    · rw [hc i]
      by_cases h2 : j + 1 ≤ i ∧ i < len - 1
      · rw [if_pos h2, if_pos ⟨by omega, h2.2⟩, hI_setI, if_neg (fun e => by omega)]
      · rw [if_neg h2, hI_setI]
        by_cases h3 : i = j
        · rw [if_pos ⟨rfl, h3⟩, if_pos ⟨by omega, by omega⟩, h3]
        · rw [if_neg (fun e => h3 e.2), if_neg (by omega)]
theorem t_removeAt {k : Nat} (hP : PileS h p c o L) (hk : k < L.length) : ∃ h', JMt mX2_removeAt none (d + 1) [.ref p, .int (nI k)] h none h' ∧ Upd (pc2 p o) h h' ∧ PileS h' p c o (delL L k) := by
  have hpo := pile_ne hP
  obtain ⟨p1, p2, p3, p4, p5, p6, p7⟩ := hP
  obtain ⟨h', hJ, hU, hs, hc⟩ := l_removeAt (d := d) (k := k) (len := L.length) p6 hk hpo (L.length - 1 - k) k h rfl (Nat.le_refl _) (by omega) p1 p3 p4 p5
  refine ⟨h', jm mi_X2_removeAt (Nat.le_of_ble_eq_true rfl) rfl rfl (k_X2_removeAt_0 (fun q => absurd q (nI_lt0 (by omega))) (fun _ => k_X2_removeAt_4 p1 (fun _ => k_X2_removeAt_13 hJ) (fun q => absurd (by rw [p5]; exact nI_lt hk (by omega)) q))), hU, by rw [hU.gg]; exact p1, by rw [hU.rr]; exact p2, by rw [hU.rr]; exact p3, by rw [hU.gg]; exact p4, by rw [hs, delL_len hk], by rw [delL_len hk]; omega, fun i hi => ?_⟩
  rw [delL_len hk] at hi
  rw [hc i, delL_get (by omega)]
  by_cases h1 : i < k
  · rw [if_neg (by omega), if_pos h1, p7 i (by omega)]
  · rw [if_neg h1, if_pos ⟨by omega, by omega⟩, p7 (i + 1) (by omega)]
theorem t_removeN {x : Int32} (hP : PileS h p c o L) (hx : x < 0 ∨ nI L.length ≤ x) : JMt mX2_removeAt none d [.ref p, .int x] h none h := by
  obtain ⟨p1, p2, p3, p4, p5, p6, p7⟩ := hP
  by_cases h1 : x < 0
  · exact jm mi_X2_removeAt (Nat.le_of_ble_eq_true rfl) rfl rfl (k_X2_removeAt_0 (fun _ => k_X2_removeAt_12) (fun q => absurd h1 q))
  · exact jm mi_X2_removeAt (Nat.le_of_ble_eq_true rfl) rfl rfl (k_X2_removeAt_0 (fun q => absurd q h1) (fun _ => k_X2_removeAt_4 p1 (fun q => absurd q (by rw [p5]; exact fun z => (fa_of_lt z).2.1 (hx.resolve_left h1))) (fun _ => k_X2_removeAt_12)))
theorem t_clear (hP : PileS h p c o L) : ∃ h', JMt mX2_clear none d [.ref p] h none h' ∧ Upd (pc2 p o) h h' ∧ PileS h' p c o [] := by
  have hpo := pile_ne hP
  obtain ⟨p1, p2, p3, p4, p5, p6, p7⟩ := hP
  exact ⟨_, jm mi_X2_clear (Nat.le_of_ble_eq_true rfl) rfl rfl (k_X2_clear_0 p1), Upd.set (Or.inl rfl), p1, p2, p3, p4, by rw [hI_setI, if_pos ⟨rfl, rfl⟩]; rfl, Nat.zero_le _, fun k hk => absurd hk (Nat.not_lt_zero k)⟩
/-- copyAll between rows of one length -/
theorem l_copyAll {a b n : Nat} (hab : a ≠ b) (hn : n < 2 ^ 31) : ∀ m j (h : PH), n - j = m → j ≤ n → hG h a = (20, n) → hG h b = (20, n) → ∃ h', J mX7_copyAll d 2 [some (.ref a), some (.ref b), some (.int (nI j))] [] h none h' ∧ Upd (fun i => i = b) h h' ∧ ∀ i, hI h' b i = if j ≤ i ∧ i < n then hI h a i else hI h b i := by
  intro m
  induction m with
  | zero =>
    intro j h hj hl g1 g2
    refine ⟨h, k_X7_copyAll_2 g1 (fun _ => k_X7_copyAll_26) (fun q => absurd (nI_le (by omega) (by omega)) q), Upd.rf, fun i => by rw [if_neg (by omega)]⟩
  | succ m ih =>
    intro j h hj hl g1 g2
    obtain ⟨h', hJ, hU, hc⟩ := ih (j + 1) (setI h b j (hI h a j)) (by omega) (by omega) g1 g2
    refine ⟨h', k_X7_copyAll_2 g1 (fun q => absurd q (nI_ge (by omega) hn)) (fun _ => k_X7_copyAll_8 g2 (fun q => absurd q (nI_ge (by omega) hn)) (fun _ => k_X7_copyAll_14 g1 (vp_in_nI (by omega) hn) g2 (vp_in_nI (by omega) hn) ?_)), (Upd.set (S := fun i => i = b) rfl).tr hU, fun i => ?_⟩
    · rw [nI_1, nI_clamp (by omega)]
      exact hJ
    · rw [hc i]
      by_cases h2 : j + 1 ≤ i ∧ i < n
      · rw [if_pos h2, if_pos ⟨by omega, h2.2⟩, hI_setI, if_neg (fun e => hab e.1)]
      · rw [if_neg h2, hI_setI]
        by_cases h3 : i = j
        · rw [if_pos ⟨rfl, h3⟩, if_pos ⟨by omega, by omega⟩, h3]
        · rw [if_neg (fun e => h3 e.2), if_neg (by omega)]
theorem t_copyAll {a b n : Nat} (hab : a ≠ b) (hn : n < 2 ^ 31) (g1 : hG h a = (20, n)) (g2 : hG h b = (20, n)) : ∃ h', JMt mX7_copyAll none d [.ref a, .ref b] h none h' ∧ Upd (fun i => i = b) h h' ∧ ∀ i, i < n → hI h' b i = hI h a i := by
  obtain ⟨h', hJ, hU, hc⟩ := l_copyAll (d := d) hab hn n 0 h rfl (Nat.zero_le _) g1 g2
  exact ⟨h', jm mi_X7_copyAll (Nat.le_of_ble_eq_true rfl) rfl rfl (k_X7_copyAll_0 hJ), hU, fun i hi => by rw [hc i, if_pos ⟨Nat.zero_le _, hi⟩]⟩
theorem t_pileTake {q r e : Nat} {K : List Nat} (hP : PileS h p c o L) (hQ : PileS h q e r K) (hor : o ≠ r) (hpq : p ≠ q) : ∃ h', JMt mX2_takeFrom none (d + 1) [.ref p, .ref q] h none h' ∧ Upd (pc2 p o) h h' ∧ PileS h' p c o K := by
  have hpo := pile_ne hP
  have hqr := pile_ne hQ
  obtain ⟨p1, p2, p3, p4, p5, p6, p7⟩ := hP
  obtain ⟨q1, q2, q3, q4, q5, q6, q7⟩ := hQ
  have hqo : q ≠ o := fun z => by rw [z, p4] at q1; cases q1
  obtain ⟨h1, hM, hU, hc⟩ := t_copyAll (d := d) (h := h) (fun z => hor z.symm) (by omega) q4 p4
  refine ⟨_, jm mi_X2_takeFrom (Nat.le_of_ble_eq_true rfl) rfl rfl (k_X2_takeFrom_0 q1 q3 p1 p3 hM (Or.inl hU.1) (by rw [hU.gg]; exact q1) (by rw [hU.gg]; exact p1)), (hU.mono (fun i z => Or.inr z)).tr (Upd.set (Or.inl rfl)), ?_⟩
  have eq1 : hI h1 q = hI h q := hU.2.2.2.2.2 q hqo
  refine ⟨by rw [hG_setI, hU.gg]; exact p1, by rw [hR_setI, hU.rr]; exact p2, by rw [hR_setI, hU.rr]; exact p3, by rw [hG_setI, hU.gg]; exact p4, ?_, q6, fun k hk => ?_⟩
  · rw [hI_setI, if_pos ⟨rfl, rfl⟩, eq1, q5]
  · rw [hI_setI, if_neg (fun z => hpo z.1.symm), hc k (by omega), q7 k hk]
end CH
