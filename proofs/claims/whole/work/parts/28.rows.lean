/-! what may change when cells are made too; rows; the tape -/
def Chg (S : Nat → Prop) (h h' : PH) : Prop := hn h ≤ hn h' ∧ hs h ≤ hs h' ∧ ∀ i, i < hn h → hT h' i = hT h i ∧ (¬ S i → hI h' i = hI h i ∧ hL h' i = hL h i ∧ hR h' i = hR h i)
theorem Chg.rf {S : Nat → Prop} {h : PH} : Chg S h h := ⟨Nat.le_refl _, Nat.le_refl _, fun _ _ => ⟨rfl, fun _ => ⟨rfl, rfl, rfl⟩⟩⟩
theorem Chg.tr {S : Nat → Prop} {h h1 h2 : PH} (a : Chg S h h1) (b : Chg S h1 h2) : Chg S h h2 := by
  obtain ⟨a1, a2, a3⟩ := a
  obtain ⟨b1, b2, b3⟩ := b
  refine ⟨Nat.le_trans a1 b1, Nat.le_trans a2 b2, fun i hi => ?_⟩
  obtain ⟨c1, c2⟩ := a3 i hi
  obtain ⟨e1, e2⟩ := b3 i (Nat.lt_of_lt_of_le hi a1)
  refine ⟨e1.trans c1, fun hS => ?_⟩
  obtain ⟨f1, f2, f3⟩ := c2 hS
  obtain ⟨g1, g2, g3⟩ := e2 hS
  exact ⟨g1.trans f1, g2.trans f2, g3.trans f3⟩
theorem Chg.mono {S S' : Nat → Prop} {h h1 : PH} (a : Chg S h h1) (hs : ∀ i, S i → S' i) : Chg S' h h1 :=
  ⟨a.1, a.2.1, fun i hi => ⟨(a.2.2 i hi).1, fun q => (a.2.2 i hi).2 (fun z => q (hs i z))⟩⟩
theorem Upd.chg {S : Nat → Prop} {h h1 : PH} (a : Upd S h h1) : Chg S h h1 := by
  obtain ⟨a1, a2, a3, a4, a5, a6⟩ := a
  exact ⟨by omega, by omega, fun i _ => ⟨by rw [a3], fun q => ⟨a6 i q, by rw [a5], by rw [a4]⟩⟩⟩
theorem Chg.setL {S : Nat → Prop} {h : PH} {i k : Nat} {v : Int64} (hi : S i) : Chg S h (setL h i k v) :=
  ⟨Nat.le_refl _, Nat.le_refl _, fun j _ => ⟨rfl, fun q => ⟨rfl, by funext z; rw [hL_setL, if_neg (fun e => q (by rw [e.1]; exact hi))], rfl⟩⟩⟩
theorem Chg.setR {S : Nat → Prop} {h : PH} {i k : Nat} {v : Option Nat} (hi : S i) : Chg S h (setR h i k v) :=
  ⟨Nat.le_refl _, Nat.le_refl _, fun j _ => ⟨rfl, fun q => ⟨rfl, rfl, by funext z; rw [hR_setR, if_neg (fun e => q (by rw [e.1]; exact hi))]⟩⟩⟩
theorem Chg.setI {S : Nat → Prop} {h : PH} {i k : Nat} {v : Int32} (hi : S i) : Chg S h (setI h i k v) := (Upd.set hi).chg
theorem Chg.gg {S : Nat → Prop} {h h1 : PH} (a : Chg S h h1) {i t n : Nat} (g : hG h i = (t, n)) (ht : t < 99) : hG h1 i = (t, n) := by
  obtain ⟨g1, g2⟩ := hG_lt g ht
  unfold hG
  rw [if_pos (Nat.lt_of_lt_of_le g1 a.1), (a.2.2 i g1).1, g2]
theorem Chg.at {S : Nat → Prop} {h h1 : PH} (a : Chg S h h1) {i t n : Nat} (g : hG h i = (t, n)) (ht : t < 99) (hi : ¬ S i) : hI h1 i = hI h i ∧ hL h1 i = hL h i ∧ hR h1 i = hR h i := (a.2.2 i (hG_lt g ht).1).2 hi
theorem CrowdS.chg {S : Nat → Prop} {h h1 : PH} {c f : Nat} {P : List Pers} (hC : CrowdS h c f P) (a : Chg S h h1) (hc : ¬ S c) (hf : ¬ S f) : CrowdS h1 c f P := by
  obtain ⟨c1, c2, c3, c4, c5, c6, c7⟩ := hC
  obtain ⟨e1, e2, e3⟩ := a.at c1 (by omega) hc
  obtain ⟨f1, f2, f3⟩ := a.at c3 (by omega) hf
  exact ⟨a.gg c1 (by omega), by rw [e3]; exact c2, a.gg c3 (by omega), by rw [e1]; exact c4, c5, fun p hp w hw => by rw [f1]; exact c6 p hp w hw, c7⟩
theorem PileS.chg {S : Nat → Prop} {h h1 : PH} {p c o : Nat} {L : List Nat} (hP : PileS h p c o L) (a : Chg S h h1) (hp : ¬ S p) (ho : ¬ S o) : PileS h1 p c o L := by
  obtain ⟨p1, p2, p3, p4, p5, p6, p7⟩ := hP
  obtain ⟨e1, e2, e3⟩ := a.at p1 (by omega) hp
  obtain ⟨f1, f2, f3⟩ := a.at p4 (by omega) ho
  exact ⟨a.gg p1 (by omega), by rw [e3]; exact p2, by rw [e3]; exact p3, a.gg p4 (by omega), by rw [e1]; exact p5, p6, fun k hk => by rw [f1]; exact p7 k hk⟩
theorem WorldS.chg {S : Nat → Prop} {h h1 : PH} {w : Nat} {σ : WS} (hW : WorldS h w σ) (a : Chg S h h1) (hS : ∀ i, inW w i → ¬ S i) : WorldS h1 w σ := by
  obtain ⟨w1, w2, w3, w4, w5, w6, w7, w8, w9, w10⟩ := hW
  obtain ⟨e1, e2, e3⟩ := a.at w1 (by omega) (hS w ⟨by omega, by omega⟩)
  refine ⟨a.gg w1 (by omega), by rw [e3]; exact w2, by rw [e3]; exact w3, w4.chg a (hS _ ⟨by omega, by omega⟩) (hS _ ⟨by omega, by omega⟩), w5.chg a (hS _ ⟨by omega, by omega⟩) (hS _ ⟨by omega, by omega⟩), ?_, ?_, ?_, ?_, ?_⟩
  · rw [e1]; exact w6
  · rw [e1]; exact w7
  · rw [e1]; exact w8
  · rw [e1]; exact w9
  · rw [e1]; exact w10
/-- an int within bounds is a number -/
theorem inr {x : Int32} {n : Nat} (h0 : ¬ x < 0) (h1 : x.toInt < n) : ∃ k, k < n ∧ x = nI k := by
  rw [fa_lt, show (0 : Int32).toInt = 0 from rfl] at h0
  have hb := x.toInt_lt
  refine ⟨x.toInt.toNat, by omega, ?_⟩
  apply Int32.toInt_inj.mp
  rw [nI_toInt (by omega)]
  omega
theorem inrI {x : Int32} {n : Nat} (hn : n < 2 ^ 31) (h0 : ¬ x < 0) (h1 : x < nI n) : ∃ k, k < n ∧ x = nI k := by
  rw [fa_lt, nI_toInt hn] at h1
  exact inr h0 h1
/-- a row at r, its cells at c -/
def RowS (h : PH) (r c sort n : Nat) (v : Nat → Int64) : Prop := hG h r = (4, 2) ∧ hI h r 0 = nI sort ∧ hR h r 1 = some c ∧ hG h c = (22, n) ∧ n ≤ 40 ∧ sort ≤ 4 ∧ ∀ k, k < n → hL h c k = v k
theorem RowS.chg {S : Nat → Prop} {h h1 : PH} {r c sort n : Nat} {v : Nat → Int64} (hR : RowS h r c sort n v) (a : Chg S h h1) (hr : ¬ S r) (hc : ¬ S c) : RowS h1 r c sort n v := by
  obtain ⟨r1, r2, r3, r4, r5, r6, r7⟩ := hR
  obtain ⟨e1, e2, e3⟩ := a.at r1 (by omega) hr
  obtain ⟨f1, f2, f3⟩ := a.at r4 (by omega) hc
  exact ⟨a.gg r1 (by omega), by rw [e1]; exact r2, by rw [e3]; exact r3, a.gg r4 (by omega), r5, r6, fun k hk => by rw [f2]; exact r7 k hk⟩
/-- a value cut to a sort -/
def cutL (sort : Nat) (v : Int64) : Int64 := if sort = 0 then v.toInt32.toInt8.toInt32.toInt64 else if sort = 1 then v.toInt32.toInt16.toInt32.toInt64 else if sort = 2 then v.toInt32.toInt64 else if sort = 3 then v else if lg_cmp v (0 : Int64) = 0 then 0 else 1
/-- what lies at a place told -/
def cellI (n : Nat) (v : Nat → Int64) (x : Int32) : Int64 := if ¬ x < 0 ∧ x < nI n then v x.toNatClampNeg else 0
section RW
variable {d : Nat} {h : PH} {r c sort n : Nat} {v : Nat → Int64}
theorem tX4_has {x : Int32} (hR : RowS h r c sort n v) : JMt mX4_has (some .boolean) d [.ref r, .int x] h (some (.int (if ¬ x < 0 ∧ x < nI n then 1 else 0))) h := by
  obtain ⟨r1, r2, r3, r4, r5, r6, r7⟩ := hR
  by_cases h1 : x < 0
  · rw [if_neg (fun q => q.1 h1)]
    exact jm mi_X4_has (Nat.le_of_ble_eq_true rfl) ⟨.boolean, rfl, rfl⟩ rfl (k_X4_has_0 (fun _ => k_X4_has_17 k_X4_has_18) (fun q => absurd h1 q))
  · by_cases h2 : x < nI n
    · rw [if_pos ⟨h1, h2⟩]
      exact jm mi_X4_has (Nat.le_of_ble_eq_true rfl) ⟨.boolean, rfl, rfl⟩ rfl (k_X4_has_0 (fun q => absurd q h1) (fun _ => k_X4_has_4 r1 r3 r4 (fun q => absurd q (fa_of_lt h2).2.1) (fun _ => k_X4_has_13 k_X4_has_18)))
    · rw [if_neg (fun q => h2 q.2)]
      exact jm mi_X4_has (Nat.le_of_ble_eq_true rfl) ⟨.boolean, rfl, rfl⟩ rfl (k_X4_has_0 (fun q => absurd q h1) (fun _ => k_X4_has_4 r1 r3 r4 (fun _ => k_X4_has_17 k_X4_has_18) (fun q => absurd (fa_of_nlt h2) q)))
theorem t_cell {x : Int32} (hR : RowS h r c sort n v) : JMt mX4_cell (some .long) d [.ref r, .int x] h (some (.long (cellI n v x))) h := by
  obtain ⟨r1, r2, r3, r4, r5, r6, r7⟩ := hR
  unfold cellI
  by_cases h1 : x < 0
  · rw [if_neg (fun q => q.1 h1)]
    exact jm mi_X4_cell (Nat.le_of_ble_eq_true rfl) rfl rfl (k_X4_cell_0 (fun _ => k_X4_cell_22 k_X4_cell_23) (fun q => absurd h1 q))
  · by_cases h2 : x < nI n
    · rw [if_pos ⟨h1, h2⟩]
      obtain ⟨k, hk, rfl⟩ := inrI (by omega) h1 h2
      have fin : JMt mX4_cell (some .long) d [.ref r, .int (nI k)] h (some (.long (hL h c (nI k).toNatClampNeg))) h := jm mi_X4_cell (Nat.le_of_ble_eq_true rfl) rfl rfl (k_X4_cell_0 (fun q => absurd q h1) (fun _ => k_X4_cell_4 r1 r3 r4 (fun q => absurd q (fa_of_lt h2).2.1) (fun _ => k_X4_cell_13 r1 r3 r4 (vp_in_nI hk (by omega)) k_X4_cell_23)))
      rw [nI_clamp (by omega), r7 k hk] at fin
      rw [nI_clamp (by omega)]
      exact fin
    · rw [if_neg (fun q => h2 q.2)]
      exact jm mi_X4_cell (Nat.le_of_ble_eq_true rfl) rfl rfl (k_X4_cell_0 (fun q => absurd q h1) (fun _ => k_X4_cell_4 r1 r3 r4 (fun _ => k_X4_cell_22 k_X4_cell_23) (fun q => absurd (fa_of_nlt h2) q)))
theorem cellI_at {k : Nat} (hk : k < n) (hn : n < 2 ^ 31) : cellI n v (nI k) = v k := by
  unfold cellI
  rw [if_pos ⟨nI_lt0 (by omega), nI_lt hk hn⟩, nI_clamp (by omega)]
theorem t_hasSpan {x y : Int32} (hR : RowS h r c sort n v) : JMt mX4_hasSpan (some .boolean) d [.ref r, .int x, .int y] h (some (.int (if ¬ x < 0 ∧ ¬ y < 0 ∧ ¬ nI n < y ∧ ¬ nI n - y < x then 1 else 0))) h := by
  obtain ⟨r1, r2, r3, r4, r5, r6, r7⟩ := hR
  have no : J mX4_hasSpan d 32 [some (.ref r), some (.int x), some (.int y)] [] h (some (.int 0)) h := k_X4_hasSpan_32 k_X4_hasSpan_33
  refine jm mi_X4_hasSpan (Nat.le_of_ble_eq_true rfl) ⟨.boolean, rfl, by split <;> rfl⟩ rfl (k_X4_hasSpan_0 (fun q => ?_) (fun q1 => k_X4_hasSpan_4 (fun q => ?_) (fun q2 => k_X4_hasSpan_8 r1 r3 r4 (fun q => ?_) (fun q3 => k_X4_hasSpan_17 r1 r3 r4 (fun q => ?_) (fun q4 => ?_)))))
  · rw [if_neg (fun z => z.1 q)]; exact no
  · rw [if_neg (fun z => z.2.1 q)]; exact no
  · rw [if_neg (fun z => z.2.2.1 q)]; exact no
  · rw [if_neg (fun z => z.2.2.2 q)]; exact no
  · rw [if_pos ⟨q1, q2, q3, q4⟩]; exact k_X4_hasSpan_28 k_X4_hasSpan_33
theorem le4 {k : Nat} (h : k ≤ 4) : k = 0 ∨ k = 1 ∨ k = 2 ∨ k = 3 ∨ k = 4 := by omega
theorem t_cut {z : Int64} (hR : RowS h r c sort n v) : JMt mX4_cut (some .long) d [.ref r, .long z] h (some (.long (cutL sort z))) h := by
  obtain ⟨r1, r2, r3, r4, r5, r6, r7⟩ := hR
  have L3 : ∀ m : Nat, m < 2 ^ 31 → (nI m).toInt = m := fun m hm => nI_toInt hm
  rcases le4 r6 with e | e | e | e | e
  · subst e
    exact jm mi_X4_cut (Nat.le_of_ble_eq_true rfl) rfl rfl (k_X4_cut_0 r1 (fun q => absurd q (by rw [r2, L3 0 (by omega)]; omega)) (fun _ => k_X4_cut_36) (fun q => absurd q (by rw [r2]; decide)) (fun q => absurd q (by rw [r2]; decide)) (fun q => absurd q (by rw [r2]; decide)))
  · subst e
    exact jm mi_X4_cut (Nat.le_of_ble_eq_true rfl) rfl rfl (k_X4_cut_0 r1 (fun q => absurd q (by rw [r2, L3 1 (by omega)]; omega)) (fun q => absurd q (by rw [r2]; decide)) (fun _ => k_X4_cut_41) (fun q => absurd q (by rw [r2]; decide)) (fun q => absurd q (by rw [r2]; decide)))
  · subst e
    exact jm mi_X4_cut (Nat.le_of_ble_eq_true rfl) rfl rfl (k_X4_cut_0 r1 (fun q => absurd q (by rw [r2, L3 2 (by omega)]; omega)) (fun q => absurd q (by rw [r2]; decide)) (fun q => absurd q (by rw [r2]; decide)) (fun _ => k_X4_cut_46) (fun q => absurd q (by rw [r2]; decide)))
  · subst e
    exact jm mi_X4_cut (Nat.le_of_ble_eq_true rfl) rfl rfl (k_X4_cut_0 r1 (fun q => absurd q (by rw [r2, L3 3 (by omega)]; omega)) (fun q => absurd q (by rw [r2]; decide)) (fun q => absurd q (by rw [r2]; decide)) (fun q => absurd q (by rw [r2]; decide)) (fun _ => k_X4_cut_50))
  · subst e
    refine jm mi_X4_cut (Nat.le_of_ble_eq_true rfl) rfl rfl (k_X4_cut_0 r1 (fun _ => k_X4_cut_52 (fun q => ?_) (fun q => ?_)) (fun q => absurd q (by rw [r2]; decide)) (fun q => absurd q (by rw [r2]; decide)) (fun q => absurd q (by rw [r2]; decide)) (fun q => absurd q (by rw [r2]; decide)))
    · have e : cutL 4 z = 0 := if_pos q
      rw [e]; exact k_X4_cut_62 k_X4_cut_63
    · have e : cutL 4 z = 1 := if_neg q
      rw [e]; exact k_X4_cut_58 k_X4_cut_63
theorem t_keep {k : Nat} {z : Int64} (hR : RowS h r c sort n v) (hk : k < n) : JMt mX4_keep none (d + 1) [.ref r, .int (nI k), .long z] h none (setL h c k (cutL sort z)) := by
  have hR0 := hR
  obtain ⟨r1, r2, r3, r4, r5, r6, r7⟩ := hR
  refine jm mi_X4_keep (Nat.le_of_ble_eq_true rfl) rfl rfl (k_X4_keep_0 (fun q => absurd q (nI_lt0 (by omega))) (fun _ => k_X4_keep_4 r1 r3 r4 (fun q => absurd q (nI_ge hk (by omega))) (fun _ => k_X4_keep_13 r1 r3 (t_cut hR0) (Or.inl rfl) r4 (vp_in_nI hk (by omega)) ?_)))
  rw [nI_clamp (by omega)]
  exact k_X4_keep_24
end RW
/-- the tape at t, its letters at l -/
def TapeS (h : PH) (t l : Nat) (B : List Nat) : Prop := hG h t = (5, 2) ∧ hR h t 0 = some l ∧ hG h l = (20, 250) ∧ hI h t 1 = nI B.length ∧ B.length ≤ 250 ∧ (∀ k, k < B.length → hI h l k = nI (B.getD k 0)) ∧ ∀ b ∈ B, b < 256
theorem TapeS.chg {S : Nat → Prop} {h h1 : PH} {t l : Nat} {B : List Nat} (hT : TapeS h t l B) (a : Chg S h h1) (ht : ¬ S t) (hl : ¬ S l) : TapeS h1 t l B := by
  obtain ⟨t1, t2, t3, t4, t5, t6, t7⟩ := hT
  obtain ⟨e1, e2, e3⟩ := a.at t1 (by omega) ht
  obtain ⟨f1, f2, f3⟩ := a.at t3 (by omega) hl
  exact ⟨a.gg t1 (by omega), by rw [e3]; exact t2, a.gg t3 (by omega), by rw [e1]; exact t4, t5, fun k hk => by rw [f1]; exact t6 k hk, t7⟩
section TP
variable {d : Nat} {h : PH} {t l : Nat} {B : List Nat}
theorem tX5_isFull (hT : TapeS h t l B) : JMt mX5_isFull (some .boolean) d [.ref t] h (some (.int (if B.length < 250 then 0 else 1))) h := by
  obtain ⟨t1, t2, t3, t4, t5, t6, t7⟩ := hT
  by_cases h1 : B.length < 250
  · rw [if_pos h1]
    exact jm mi_X5_isFull (Nat.le_of_ble_eq_true rfl) ⟨.boolean, rfl, rfl⟩ rfl (k_X5_isFull_0 t1 (fun _ => k_X5_isFull_14 k_X5_isFull_15) (fun q => absurd (by rw [t4]; exact nI_lt (b := 250) h1 (by omega)) q))
  · rw [if_neg h1]
    exact jm mi_X5_isFull (Nat.le_of_ble_eq_true rfl) ⟨.boolean, rfl, rfl⟩ rfl (k_X5_isFull_0 t1 (fun q => absurd (by rw [t4] at q; exact q) (nI_nlt (b := 250) (by omega) (by omega))) (fun _ => k_X5_isFull_10 k_X5_isFull_15))
theorem tape_ne (hT : TapeS h t l B) : t ≠ l := fun e => by
  have h1 := hT.1
  have h2 := hT.2.2.1
  rw [e, h2] at h1
  cases h1
theorem t_append {b : Nat} (hT : TapeS h t l B) (hl : B.length < 250) (hb : b < 256) : ∃ h', JMt mX5_append none (d + 1) [.ref t, .int (nI b)] h none h' ∧ Upd (pc2 t l) h h' ∧ TapeS h' t l (B ++ [b]) := by
  have hF := tX5_isFull (d := d) hT
  rw [if_pos hl] at hF
  have hne := tape_ne hT
  obtain ⟨t1, t2, t3, t4, t5, t6, t7⟩ := hT
  have hp : JMt mX7_put none d [.ref l, .int (hI h t 1), .int (nI b)] h none (setI h l B.length (nI b)) := by rw [t4]; exact t_put t3 (by omega) (by omega)
  refine ⟨_, jm mi_X5_append (Nat.le_of_ble_eq_true rfl) rfl rfl (k_X5_append_0 hF (Or.inl rfl) t1 (fun q => absurd rfl q) (fun _ => k_X5_append_7 t1 t2 hp (Or.inl rfl) t1 k_X5_append_29)), (Upd.set (Or.inr rfl)).tr (Upd.set (Or.inl rfl)), t1, t2, t3, ?_, ?_, fun k hk => ?_, fun y hy => ?_⟩
  · rw [hI_setI, if_pos ⟨rfl, rfl⟩, hI_setI, if_neg (fun z => hne z.1), t4, List.length_append]; exact nI_1 _
  · rw [List.length_append]; show B.length + 1 ≤ 250; omega
  · rw [List.length_append] at hk
    have hk : k < B.length + 1 := hk
    rw [hI_setI, if_neg (fun z => hne z.1.symm), hI_setI]
    simp only [List.getD_eq_getElem?_getD]
    by_cases e : k = B.length
    · rw [if_pos ⟨trivial, e⟩, e, List.getElem?_append_right (Nat.le_refl _), Nat.sub_self]; rfl
    · rw [if_neg (fun z => e z.2), List.getElem?_append_left (by omega), t6 k (by omega), List.getD_eq_getElem?_getD]
  · rcases List.mem_append.mp hy with z | z
    · exact t7 y z
    · rw [List.mem_singleton.mp z]; exact hb
theorem tX5_clear (hT : TapeS h t l B) : ∃ h', JMt mX5_clear none d [.ref t] h none h' ∧ Upd (pc2 t l) h h' ∧ TapeS h' t l [] := by
  obtain ⟨t1, t2, t3, t4, t5, t6, t7⟩ := hT
  exact ⟨_, jm mi_X5_clear (Nat.le_of_ble_eq_true rfl) rfl rfl (k_X5_clear_0 t1), Upd.set (Or.inl rfl), t1, t2, t3, by rw [hI_setI, if_pos ⟨rfl, rfl⟩]; rfl, Nat.zero_le _, fun k hk => absurd hk (Nat.not_lt_zero k), fun b hb => absurd hb List.not_mem_nil⟩
theorem t_letter {k : Nat} (hT : TapeS h t l B) (hk : k < B.length) : JMt mX5_letter (some .int) (d + 1) [.ref t, .int (nI k)] h (some (.int (nI (B.getD k 0)))) h := by
  obtain ⟨t1, t2, t3, t4, t5, t6, t7⟩ := hT
  refine jm mi_X5_letter (Nat.le_of_ble_eq_true rfl) ⟨.int, rfl, rfl⟩ rfl (k_X5_letter_0 (fun q => absurd q (nI_lt0 (by omega))) (fun _ => k_X5_letter_4 t1 (fun q => absurd q (by rw [t4]; exact nI_ge hk (by omega))) (fun _ => k_X5_letter_12 t1 t2 (t_pick (k := k) t3 (by omega) (by omega)) (Or.inl rfl) ?_)))
  rw [t6 k hk]
  exact k_X5_letter_24
theorem t_letterN {k : Nat} (hT : TapeS h t l B) (hk : B.length ≤ k) (hk2 : k < 2 ^ 31) : JMt mX5_letter (some .int) d [.ref t, .int (nI k)] h (some (.int (-1))) h := by
  obtain ⟨t1, t2, t3, t4, t5, t6, t7⟩ := hT
  exact jm mi_X5_letter (Nat.le_of_ble_eq_true rfl) ⟨.int, rfl, rfl⟩ rfl (k_X5_letter_0 (fun q => absurd q (nI_lt0 (by omega))) (fun _ => k_X5_letter_4 t1 (fun _ => k_X5_letter_23 k_X5_letter_24) (fun q => absurd (by rw [t4]; exact nI_le hk hk2) q)))
end TP
