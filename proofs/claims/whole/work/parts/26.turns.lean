/-! traits changed, what is said, two change places, a turn -/
def setP (q : Pers) (w v : Nat) : Pers := (q.1, q.2.1, if w = 2 then v else q.2.2.1, if w = 3 then v else q.2.2.2.1, if w = 4 then v else q.2.2.2.2)
def sayF (k : Nat) (q : Pers) : Nat := if k = 1 ∨ k = 3 then tallP q else if k = 2 ∨ k = 4 then bearP q else if k = 5 then massP q else q.2.2.2.2
theorem pg_set {P : List Pers} {p x : Nat} {q : Pers} (hp : p < P.length) : pg (P.set p q) x = if x = p then q else pg P x := by
  unfold pg
  simp only [List.getD_eq_getElem?_getD]
  by_cases h1 : x = p
  · subst h1; rw [if_pos rfl, List.getElem?_set_self hp]; rfl
  · rw [if_neg h1, List.getElem?_set_ne (fun z => h1 z.symm)]
def swapL (L : List Nat) (a b : Nat) : List Nat := (L.set a (L.getD b 0)).set b (L.getD a 0)
theorem getD_set {L : List Nat} {k i v : Nat} (hk : k < L.length) : (L.set k v).getD i 0 = if i = k then v else L.getD i 0 := by
  simp only [List.getD_eq_getElem?_getD]
  by_cases h1 : i = k
  · subst h1; rw [if_pos rfl, List.getElem?_set_self hk]; rfl
  · rw [if_neg h1, List.getElem?_set_ne (fun z => h1 z.symm)]
def cyc (n x : Nat) : Nat := if x + 1 < n then x + 1 else 0
/-- the first who isn't in it, of m numbers in the round from x on -/
def nextN (n : Nat) (L : List Nat) : Nat → Nat → Option Nat
  | 0, _ => none
  | m + 1, x => if (courseF L x 0).isSome then nextN n L m (cyc n x) else some x
def startN (n : Nat) (L : List Nat) : Nat := if L.length = 0 then 0 else cyc n (L.getD (L.length - 1) 0)
def behindF (n : Nat) (L : List Nat) : Option Nat := nextN n L n (startN n L)
def roomL (most n : Nat) (L : List Nat) : List Nat := if most ≤ L.length ∨ n ≤ L.length then delL L 0 else L
def climbL (r : Option Nat) (L : List Nat) : List Nat := match r with
  | some x => insL L L.length x
  | none => L
/-- a turn's tower before it is looked at -/
def turnL (most n : Nat) (L : List Nat) : List Nat := climbL (behindF n (roomL most n L)) (roomL most n L)
theorem cyc_lt {n x : Nat} (h : 0 < n) : cyc n x < n := by unfold cyc; split <;> omega
theorem nextN_lt {n : Nat} {L : List Nat} (hn : 0 < n) : ∀ m x k, x < n → nextN n L m x = some k → k < n
  | 0, _, _, _, h => by cases h
  | m + 1, x, k, hx, h => by
    unfold nextN at h
    split at h
    · exact nextN_lt hn m _ k (cyc_lt hn) h
    · cases h; exact hx
theorem startN_lt {n : Nat} {L : List Nat} (hn : 0 < n) : startN n L < n := by
  unfold startN
  split
  · exact hn
  · exact cyc_lt hn
theorem behindF_lt {n k : Nat} {L : List Nat} (h : behindF n L = some k) : k < n := by
  rcases Nat.eq_zero_or_pos n with z | z
  · subst z; cases h
  · exact nextN_lt z _ _ _ (startN_lt z) h
theorem roomL_in {P : List Pers} {most : Nat} {L : List Nat} (hL : inP P L) : inP P (roomL most P.length L) := by
  unfold roomL
  split
  · exact delL_in hL
  · exact hL
theorem roomL_len {most n : Nat} {L : List Nat} (hn : n ≤ 8) (hL : L.length ≤ 8) : (roomL most n L).length < 8 := by
  unfold roomL
  split
  · rcases Nat.eq_zero_or_pos L.length with z | z
    · simp [delL, z]
    · rw [delL_len z]; omega
  · omega
theorem climbL_in {P : List Pers} {r : Option Nat} {L : List Nat} (hL : inP P L) (hr : ∀ k, r = some k → k < P.length) : inP P (climbL r L) := by
  cases r with
  | none => exact hL
  | some k => exact insL_in hL (hr k rfl)
theorem climbL_len {r : Option Nat} {L : List Nat} (h : L.length < 8) : (climbL r L).length ≤ 8 := by
  cases r with
  | none => exact Nat.le_of_lt h
  | some k => show (insL L L.length k).length ≤ 8; rw [insL_len (Nat.le_refl _)]; omega
theorem turnL_in {P : List Pers} {most : Nat} {L : List Nat} (hL : inP P L) : inP P (turnL most P.length L) := climbL_in (roomL_in hL) (fun _ hk => behindF_lt hk)
section TN
variable {d : Nat} {h : PH} {c f p o : Nat} {P : List Pers} {L : List Nat}
theorem t_changeTrait {x w v : Nat} (hC : CrowdS h c f P) (hx : x < P.length) (hw : w < 5) (hw2 : 2 ≤ w) (hok : okP (setP (pg P x) w v)) : ∃ h', JMt mX0_changeTrait none (d + 3) [.ref c, .int (nI x), .int (nI w), .int (nI v)] h none h' ∧ Upd (pc1 c f) h h' ∧ CrowdS h' c f (P.set x (setP (pg P x) w v)) := by
  have hcf := crowd_ne hC
  have hC0 := hC
  obtain ⟨c1, c2, c3, c4, c5, c6, c7⟩ := hC
  have hf : ∀ j, j < 5 → hI (setI h f (8 * x + w) (nI v)) f (8 * x + j) = nI (factP (setP (pg P x) w v) j) := fun j hj => by
    rw [hI_setI]
    by_cases e : j = w
    · subst e
      rw [if_pos ⟨rfl, rfl⟩]
      have : j = 2 ∨ j = 3 ∨ j = 4 := by omega
      rcases this with rfl | rfl | rfl <;> rfl
    · rw [if_neg (fun z => by omega), c6 x hx j (by omega)]
      have : j = 0 ∨ j = 1 ∨ j = 2 ∨ j = 3 ∨ j = 4 := by omega
      rcases this with rfl | rfl | rfl | rfl | rfl
      · rfl
      · rfl
      · show nI _ = nI (if w = 2 then v else _); rw [if_neg (fun z => e z.symm)]; rfl
      · show nI _ = nI (if w = 3 then v else _); rw [if_neg (fun z => e z.symm)]; rfl
      · show nI _ = nI (if w = 4 then v else _); rw [if_neg (fun z => e z.symm)]; rfl
  have hhas : JMt mX0_has (some .boolean) (d + 2) [.ref c, .int (nI x)] h (some (.int 1)) h := by
    have := t_has (d := d + 2) (x := nI x) hC0
    rw [if_pos ⟨nI_lt0 (by omega), nI_lt hx (by omega)⟩] at this
    exact this
  have kp : JMt mX7_put none (d + 2) [.ref f, .int (nI x * (8 : Int32) + nI w), .int (nI v)] h none (setI h f (8 * x + w) (nI v)) := by rw [ix8]; exact t_put c3 (by omega) (by omega)
  have km : JMt mX0_measure none (d + 2) [.ref c, .int (nI x)] (setI h f (8 * x + w) (nI v)) none (measH (setI h f (8 * x + w) (nI v)) f x (setP (pg P x) w v)) := t_measure (h := setI h f (8 * x + w) (nI v)) c1 c2 c3 (by omega) hok hf
  refine ⟨_, jm mi_X0_changeTrait (Nat.le_of_ble_eq_true rfl) rfl rfl (k_X0_changeTrait_0 hhas (Or.inl rfl) c1 (fun q => absurd q (by decide)) (fun _ => k_X0_changeTrait_8 (fun q => absurd q (nI_lt0 (by omega))) (fun _ => k_X0_changeTrait_12 (fun q => absurd q (nI_ge (a := w) (b := 5) hw (by omega))) (fun _ => k_X0_changeTrait_17 c1 c2 kp (Or.inl rfl) km (Or.inl rfl) c1 k_X0_changeTrait_36)))), (Upd.set (Or.inr rfl)).tr (Upd.meas (Or.inr rfl)), c1, c2, c3, ?_, by rw [List.length_set]; exact c5, fun y hy j hj => ?_, fun y hy => ?_⟩
  · rw [List.length_set]
    unfold measH
    rw [hI_setI, if_neg (fun z => hcf z.1), hI_setI, if_neg (fun z => hcf z.1), hI_setI, if_neg (fun z => hcf z.1), hI_setI, if_neg (fun z => hcf z.1)]
    exact c4
  · rw [List.length_set] at hy
    rw [measH_get hj hf, pg_set hx]
    by_cases e : y = x
    · rw [if_pos e, if_pos e]
    · rw [if_neg e, if_neg e, hI_setI, if_neg (fun z => by omega)]
      exact c6 y hy j hj
  · rcases List.mem_or_eq_of_mem_set hy with z | z
    · exact c7 y z
    · rw [z]; exact hok
theorem t_sayingAs {k x : Nat} (hC : CrowdS h c f P) (hx : x < P.length) (hk : k ≤ 5) : JMt mX0_sayingAs (some .int) (d + 1) [.ref c, .int (nI k), .int (nI x)] h (some (.int (nI (sayF k (pg P x))))) h := by
  have T := k_X0_sayingAs_36 (d := d) (a1 := nI k) (t_fact (w := 7) hC hx (by omega)) (Or.inl rfl) hC.1
  have B := k_X0_sayingAs_44 (d := d) (a1 := nI k) (t_fact (w := 6) hC hx (by omega)) (Or.inl rfl) hC.1
  have Ms := k_X0_sayingAs_52 (d := d) (a1 := nI k) (t_fact (w := 5) hC hx (by omega)) (Or.inl rfl) hC.1
  have N := k_X0_sayingAs_59 (d := d) (a1 := nI k) (t_fact (w := 4) hC hx (by omega)) (Or.inl rfl) hC.1
  rcases le5 hk with rfl | rfl | rfl | rfl | rfl | rfl
  · exact jm mi_X0_sayingAs (Nat.le_of_ble_eq_true rfl) ⟨.int, rfl, rfl⟩ rfl (k_X0_sayingAs_0 (fun _ => N) (fun q => absurd q (by decide)) (fun q => absurd q (by decide)) (fun q => absurd q (by decide)) (fun q => absurd q (by decide)) (fun q => absurd q (by decide)))
  · exact jm mi_X0_sayingAs (Nat.le_of_ble_eq_true rfl) ⟨.int, rfl, rfl⟩ rfl (k_X0_sayingAs_0 (fun q => absurd q (by decide)) (fun _ => T) (fun q => absurd q (by decide)) (fun q => absurd q (by decide)) (fun q => absurd q (by decide)) (fun q => absurd q (by decide)))
  · exact jm mi_X0_sayingAs (Nat.le_of_ble_eq_true rfl) ⟨.int, rfl, rfl⟩ rfl (k_X0_sayingAs_0 (fun q => absurd q (by decide)) (fun q => absurd q (by decide)) (fun _ => B) (fun q => absurd q (by decide)) (fun q => absurd q (by decide)) (fun q => absurd q (by decide)))
  · exact jm mi_X0_sayingAs (Nat.le_of_ble_eq_true rfl) ⟨.int, rfl, rfl⟩ rfl (k_X0_sayingAs_0 (fun q => absurd q (by decide)) (fun q => absurd q (by decide)) (fun q => absurd q (by decide)) (fun _ => T) (fun q => absurd q (by decide)) (fun q => absurd q (by decide)))
  · exact jm mi_X0_sayingAs (Nat.le_of_ble_eq_true rfl) ⟨.int, rfl, rfl⟩ rfl (k_X0_sayingAs_0 (fun q => absurd q (by decide)) (fun q => absurd q (by decide)) (fun q => absurd q (by decide)) (fun q => absurd q (by decide)) (fun _ => B) (fun q => absurd q (by decide)))
  · exact jm mi_X0_sayingAs (Nat.le_of_ble_eq_true rfl) ⟨.int, rfl, rfl⟩ rfl (k_X0_sayingAs_0 (fun q => absurd q (by decide)) (fun q => absurd q (by decide)) (fun q => absurd q (by decide)) (fun q => absurd q (by decide)) (fun q => absurd q (by decide)) (fun _ => Ms))
theorem tX2_swap {a b : Nat} (hP : PileS h p c o L) (ha : a < L.length) (hb : b < L.length) : ∃ h', JMt mX2_swap none (d + 1) [.ref p, .int (nI a), .int (nI b)] h none h' ∧ Upd (pc2 p o) h h' ∧ PileS h' p c o (swapL L a b) := by
  have hpo := pile_ne hP
  obtain ⟨p1, p2, p3, p4, p5, p6, p7⟩ := hP
  have k1 : JMt mX7_put none d [.ref o, .int (nI a), .int (hI h o b)] h none (setI h o a (hI h o b)) := t_put p4 (by omega) (by omega)
  have k2 : JMt mX7_put none d [.ref o, .int (nI b), .int (hI h o a)] (setI h o a (hI h o b)) none (setI (setI h o a (hI h o b)) o b (hI h o a)) := t_put (h := setI h o a (hI h o b)) p4 (by omega) (by omega)
  refine ⟨_, jm mi_X2_swap (Nat.le_of_ble_eq_true rfl) rfl rfl (k_X2_swap_0 p1 p3 (t_pick (k := a) p4 (by omega) (by omega)) (Or.inl rfl) p1 p3 (t_pick (k := b) p4 (by omega) (by omega)) (Or.inl rfl) k1 (Or.inl rfl) p1 p3 k2 (Or.inl rfl)), (Upd.set (Or.inr rfl)).tr (Upd.set (Or.inr rfl)), p1, p2, p3, p4, ?_, by simp [swapL]; exact p6, fun i hi => ?_⟩
  · rw [hI_setI, if_neg (fun z => hpo z.1), hI_setI, if_neg (fun z => hpo z.1)]
    simp [swapL]
    exact p5
  · have hi : i < L.length := by simpa [swapL] using hi
    unfold swapL
    rw [getD_set (by rw [List.length_set]; exact hb), getD_set ha, hI_setI, hI_setI]
    by_cases e1 : i = b
    · rw [if_pos ⟨rfl, e1⟩, if_pos e1, p7 a ha]
    · rw [if_neg (fun z => e1 z.2), if_neg e1]
      by_cases e2 : i = a
      · rw [if_pos ⟨rfl, e2⟩, if_pos e2, p7 b hb]
      · rw [if_neg (fun z => e2 z.2), if_neg e2, p7 i hi]
theorem t_makeRoom {most : Nat} (hC : CrowdS h c f P) (hP : PileS h p c o L) (hm : most ≤ 8) : ∃ h', JMt mX2_makeRoom none (d + 2) [.ref p, .int (nI most)] h none h' ∧ Upd (pc2 p o) h h' ∧ PileS h' p c o (roomL most P.length L) := by
  have hP0 := hP
  obtain ⟨p1, p2, p3, p4, p5, p6, p7⟩ := hP
  obtain ⟨c1, c2, c3, c4, c5, c6, c7⟩ := hC
  have rem : ∃ h', JMt mX2_removeAt none (d + 1) [.ref p, .int 0] h none h' ∧ Upd (pc2 p o) h h' ∧ PileS h' p c o (delL L 0) := by
    rcases Nat.eq_zero_or_pos L.length with z | z
    · refine ⟨h, t_removeN hP0 (Or.inr ?_), Upd.rf, ?_⟩
      · rw [z]; exact Int32.le_refl _
      · have : delL L 0 = L := by rw [List.eq_nil_of_length_eq_zero z]; rfl
        rw [this]; exact hP0
    · exact t_removeAt (d := d) (k := 0) hP0 z
  unfold roomL
  by_cases hc : most ≤ L.length ∨ P.length ≤ L.length
  · rw [if_pos hc]
    obtain ⟨h', hM, hU, hP'⟩ := rem
    refine ⟨h', jm mi_X2_makeRoom (Nat.le_of_ble_eq_true rfl) rfl rfl ?_, hU, hP'⟩
    have tail := k_X2_makeRoom_22 (d := d + 1) (a1 := nI most) hM (Or.inl hU.1) p1 k_X2_makeRoom_27
    by_cases h1 : most ≤ L.length
    · exact k_X2_makeRoom_0 p1 (fun _ => tail) (fun q => absurd (by rw [p5]; exact nI_le h1 (by omega)) q)
    · have h2 := hc.resolve_left h1
      exact k_X2_makeRoom_0 p1 (fun q => absurd q (by rw [p5]; exact nI_ge (by omega) (by omega))) (fun _ => k_X2_makeRoom_8 p1 p2 c1 (fun q => absurd q (by rw [p5, c4]; exact nI_nlt h2 (by omega))) (fun _ => tail))
  · rw [if_neg hc]
    refine ⟨h, jm mi_X2_makeRoom (Nat.le_of_ble_eq_true rfl) rfl rfl (k_X2_makeRoom_0 p1 (fun q => absurd q (by rw [p5]; exact nI_ge (by omega) (by omega))) (fun _ => k_X2_makeRoom_8 p1 p2 c1 (fun _ => k_X2_makeRoom_27) (fun q => absurd (by rw [p5, c4]; exact nI_lt (by omega) (by omega)) q))), Upd.rf, hP0⟩
theorem l_behind {s : Int32} (hC : CrowdS h c f P) (hP : PileS h p c o L) (hL : inP P L) : ∀ m j x (z : Int32), P.length - j = m → j ≤ P.length → ((z + 1 = nI (x + 1) ∧ cyc P.length x = cyc P.length x) ∨ True) → (z + 1 = nI (if z = -1 then 0 else x + 1)) → (z ≠ -1 → z = nI x ∧ x < P.length) → J mX2_firstBehindHead (d + 3) 9 [some (.ref p), some (.int s), some (.int z), some (.int (nI j))] [] h (some (.int (oI (nextN P.length L m (if z = -1 then 0 else cyc P.length x))))) h := by
  have hP0 := hP
  have hC0 := hC
  obtain ⟨p1, p2, p3, p4, p5, p6, p7⟩ := hP
  obtain ⟨c1, c2, c3, c4, c5, c6, c7⟩ := hC
  intro m
  induction m with
  | zero =>
    intro j x z hj hl _ _ _
    exact k_X2_firstBehindHead_9 p1 p2 c1 (fun _ => k_X2_firstBehindHead_57) (fun q => absurd (by rw [c4]; exact nI_le (by omega) (by omega)) q)
  | succ m ih =>
    intro j x z hj hl _ hz1 hz2
    -- the next number
    have key : ∀ y, y < P.length → J mX2_firstBehindHead (d + 3) 40 [some (.ref p), some (.int s), some (.int z), some (.int (nI j))] [.int (nI y)] h (some (.int (oI (nextN P.length L (m + 1) y)))) h := by
      intro y hy
      refine k_X2_firstBehindHead_40 (t_isIn hP0 hL c5 (by omega)) (Or.inl rfl) p1 (fun q => ?_) (fun q => ?_)
      · have q' := bI_n0.mp q
        refine k_X2_firstBehindHead_51 ?_
        rw [nI_1, nextN, if_pos q']
        have := ih (j + 1) y (nI y) (by omega) (by omega) (Or.inr trivial) (by rw [if_neg (nI_nneg1 (by omega)), nI_1]) (fun _ => ⟨rfl, hy⟩)
        rw [if_neg (nI_nneg1 (by omega))] at this
        exact this
      · have q' := bI_0.mp q
        rw [nextN, if_neg (by rw [q']; decide)]
        exact k_X2_firstBehindHead_49
    refine k_X2_firstBehindHead_9 p1 p2 c1 (fun q => absurd q (by rw [c4]; exact nI_ge (by omega) (by omega))) (fun _ => ?_)
    by_cases hz : z = -1
    · rw [if_pos hz] at hz1 ⊢
      refine k_X2_firstBehindHead_20 p1 p2 c1 (fun q => absurd q (by rw [c4, hz1]; exact nI_ge (by omega) (by omega))) (fun _ => k_X2_firstBehindHead_33 ?_)
      rw [hz1]
      exact key 0 (by omega)
    · rw [if_neg hz] at hz1 ⊢
      obtain ⟨e1, e2⟩ := hz2 hz
      by_cases hx : x + 1 < P.length
      · refine k_X2_firstBehindHead_20 p1 p2 c1 (fun q => absurd q (by rw [c4, hz1]; exact nI_ge hx (by omega))) (fun _ => k_X2_firstBehindHead_33 ?_)
        rw [hz1]
        have : cyc P.length x = x + 1 := if_pos hx
        rw [this]
        exact key (x + 1) hx
      · refine k_X2_firstBehindHead_20 p1 p2 c1 (fun _ => k_X2_firstBehindHead_39 ?_) (fun q => absurd (by rw [c4, hz1]; exact nI_le (by omega) (by omega)) q)
        have : cyc P.length x = 0 := if_neg hx
        rw [this]
        exact key 0 (by omega)
theorem t_behind (hC : CrowdS h c f P) (hP : PileS h p c o L) (hL : inP P L) : JMt mX2_firstBehindHead (some .int) (d + 3) [.ref p] h (some (.int (oI (behindF P.length L)))) h := by
  have h8 := hC.2.2.2.2.1
  refine jm mi_X2_firstBehindHead (Nat.le_of_ble_eq_true rfl) ⟨.int, rfl, rfl⟩ rfl (k_X2_firstBehindHead_0 (tX2_head hP) (Or.inl rfl) hP.1 ?_)
  unfold behindF startN headI
  by_cases hl : L.length = 0
  · rw [if_pos hl, if_pos hl]
    exact l_behind (d := d) hC hP hL P.length 0 0 (-1) rfl (Nat.zero_le _) (Or.inr trivial) (by decide) (fun q => absurd rfl q)
  · rw [if_neg hl, if_neg hl]
    have hx := hL _ (getD_mem (L := L) (j := L.length - 1) (by omega))
    have := l_behind (d := d) (s := nI (L.getD (L.length - 1) 0)) hC hP hL P.length 0 (L.getD (L.length - 1) 0) (nI (L.getD (L.length - 1) 0)) rfl (Nat.zero_le _) (Or.inr trivial) (by rw [if_neg (nI_nneg1 (by omega)), nI_1]) (fun _ => ⟨rfl, hx⟩)
    rw [if_neg (nI_nneg1 (by omega))] at this
    exact this
theorem t_fellByTurn {most w : Nat} (hC : CrowdS h c f P) (hP : PileS h p c o L) (hL : inP P L) (hm : most ≤ 8) (hw : w ≤ 9) (hcp : ¬ pc2 p o c) (hfp : ¬ pc2 p o f) : ∃ h', JMt mX2_fellByTurn (some .boolean) (d + 4) [.ref p, .int (nI most), .int (nI w)] h (some (.int (bI (!firmB P w (turnL most P.length L))))) h' ∧ Upd (pc2 p o) h h' ∧ PileS h' p c o (if firmB P w (turnL most P.length L) then turnL most P.length L else []) := by
  obtain ⟨h1, hM1, hU1, hP1⟩ := t_makeRoom (d := d + 1) hC hP hm
  have hC1 := hC.keep hU1 hcp hfp
  have hL1 := roomL_in (most := most) hL
  have hM2 := t_behind (d := d) hC1 hP1 hL1
  have hb : ∀ k, behindF P.length (roomL most P.length L) = some k → k < P.length := fun k hk => behindF_lt hk
  have h8 := hC.2.2.2.2.1
  -- behind the climb
  have tail : ∀ (h2 : PH) (a3 : Int32), Upd (pc2 p o) h h2 → PileS h2 p c o (turnL most P.length L) → ∃ h', J mX2_fellByTurn (d + 4) 20 [some (.ref p), some (.int (nI most)), some (.int (nI w)), some (.int a3)] [] h2 (some (.int (bI (!firmB P w (turnL most P.length L))))) h' ∧ Upd (pc2 p o) h h' ∧ PileS h' p c o (if firmB P w (turnL most P.length L) then turnL most P.length L else []) := by
    intro h2 a3 hU2 hP2
    have hC2 := hC.keep hU2 hcp hfp
    have hW := t_weakCourse (d := d + 1) hC2 hP2 (turnL_in hL) hw
    have hlen := hP2.2.2.2.2.2.1
    cases hfm : firmB P w (turnL most P.length L) with
    | true =>
      exact ⟨h2, k_X2_fellByTurn_20 hW (Or.inl rfl) hP2.1 (fun q => absurd ((oI_weak hlen).mpr hfm) q) (fun _ => k_X2_fellByTurn_29), hU2, hP2⟩
    | false =>
      obtain ⟨h3, hM3, hU3, hP3⟩ := t_clear (d := d + 3) hP2
      exact ⟨h3, k_X2_fellByTurn_20 hW (Or.inl rfl) hP2.1 (fun _ => k_X2_fellByTurn_31 hM3 (Or.inl hU3.1) hP2.1) (fun q => absurd ((oI_weak hlen).mp q) (by rw [hfm]; decide)), hU2.tr hU3, hP3⟩
  cases hbe : behindF P.length (roomL most P.length L) with
  | none =>
    rw [hbe] at hM2
    have eT : turnL most P.length L = roomL most P.length L := by unfold turnL; rw [hbe]; rfl
    obtain ⟨h', hJ, hU', hP'⟩ := tail h1 (-1) hU1 (by rw [eT]; exact hP1)
    exact ⟨h', jm mi_X2_fellByTurn (Nat.le_of_ble_eq_true rfl) ⟨.boolean, rfl, by cases firmB P w (turnL most P.length L) <;> rfl⟩ rfl (k_X2_fellByTurn_0 hM1 (Or.inl hU1.1) hP.1 hM2 (Or.inl rfl) hP1.1 (fun _ => hJ) (fun q => absurd rfl q)), hU', hP'⟩
  | some x =>
    rw [hbe] at hM2
    have eT : turnL most P.length L = insL (roomL most P.length L) (roomL most P.length L).length x := by unfold turnL; rw [hbe]; rfl
    obtain ⟨h2, hM3, hU2, hP2⟩ := t_push (d := d + 1) (x := x) hP1 (roomL_len h8 hP.2.2.2.2.2.1)
    obtain ⟨h', hJ, hU', hP'⟩ := tail h2 (nI x) (hU1.tr hU2) (by rw [eT]; exact hP2)
    have hx := hb x hbe
    exact ⟨h', jm mi_X2_fellByTurn (Nat.le_of_ble_eq_true rfl) ⟨.boolean, rfl, by cases firmB P w (turnL most P.length L) <;> rfl⟩ rfl (k_X2_fellByTurn_0 hM1 (Or.inl hU1.1) hP.1 hM2 (Or.inl rfl) hP1.1 (fun q => absurd q (nI_nneg1 (by omega))) (fun _ => k_X2_fellByTurn_15 hM3 (Or.inl hU2.1) hP1.1 hJ)), hU', hP'⟩
end TN
