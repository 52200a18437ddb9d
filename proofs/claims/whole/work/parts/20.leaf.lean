/-! people and towers, as numbers; the class's small methods -/
abbrev Pers : Type := Nat × Nat × Nat × Nat × Nat
def massP (q : Pers) : Nat := if q.1 = 1 then q.2.2.1 + q.2.1 else if q.1 = 3 then (q.2.2.1 + q.2.1) / 2 else if q.1 = 5 then q.2.2.1 / 2 else q.2.2.1
def bearP (q : Pers) : Nat := if q.1 = 1 ∨ q.1 = 3 then q.2.2.2.1 - q.2.1 else if q.1 = 2 then q.2.2.2.1 + q.2.1 else if q.1 = 4 then 2 * (q.2.2.2.1 + q.2.1) else if q.1 = 5 then q.2.2.2.1 / 2 else q.2.2.2.1
def tallP (q : Pers) : Nat := if q.1 = 1 then 3 else if q.1 = 3 then 3 + q.2.1 / 3 else if q.1 = 5 then 1 else 2
def factP (q : Pers) (w : Nat) : Nat := match w with
  | 0 => q.1
  | 1 => q.2.1
  | 2 => q.2.2.1
  | 3 => q.2.2.2.1
  | 4 => q.2.2.2.2
  | 5 => massP q
  | 6 => bearP q
  | _ => tallP q
def okP (q : Pers) : Prop := q.1 ≤ 5 ∧ q.2.1 ≤ 9 ∧ (1 ≤ q.2.2.1 ∧ q.2.2.1 ≤ 40) ∧ q.2.2.2.1 ≤ 99 ∧ q.2.2.2.2 ≤ 40
def P0 : Pers := (0, 0, 1, 0, 0)
theorem okP0 : okP P0 := by simp [okP, P0]
theorem massP_le {q : Pers} (h : okP q) : massP q ≤ 49 := by
  obtain ⟨h1, h2, h3, h4, h5⟩ := h
  unfold massP
  repeat' split
  all_goals omega
theorem bearP_le {q : Pers} (h : okP q) : bearP q ≤ 216 := by
  obtain ⟨h1, h2, h3, h4, h5⟩ := h
  unfold bearP
  repeat' split
  all_goals omega
theorem tallP_le {q : Pers} (h : okP q) : tallP q ≤ 6 := by
  obtain ⟨h1, h2, h3, h4, h5⟩ := h
  unfold tallP
  repeat' split
  all_goals omega
/-- a person by number -/
def pg (P : List Pers) (p : Nat) : Pers := P.getD p P0
theorem pg_ok {P : List Pers} (h : ∀ q ∈ P, okP q) (p : Nat) : okP (pg P p) := by
  unfold pg
  rw [List.getD_eq_getElem?_getD]
  cases hp : P[p]? with
  | none => exact okP0
  | some q => exact h q (List.mem_of_getElem? hp)
def massL (P : List Pers) (L : List Nat) : Nat := (L.map fun p => massP (pg P p)).sum
def tallL (P : List Pers) (L : List Nat) : Nat := (L.map fun p => tallP (pg P p)).sum
theorem sum_le {f : Nat → Nat} {b : Nat} : ∀ {L : List Nat}, (∀ p, f p ≤ b) → (L.map f).sum ≤ b * L.length
  | [], _ => by simp
  | x :: l, h => by
    have ih := sum_le (L := l) h
    have hx := h x
    simp only [List.map_cons, List.sum_cons, List.length_cons, Nat.mul_add]
    omega
theorem massL_le {P : List Pers} (h : ∀ q ∈ P, okP q) (L : List Nat) : massL P L ≤ 49 * L.length := sum_le fun p => massP_le (pg_ok h p)
theorem tallL_le {P : List Pers} (h : ∀ q ∈ P, okP q) (L : List Nat) : tallL P L ≤ 6 * L.length := sum_le fun p => tallP_le (pg_ok h p)
theorem drop_cons {L : List Nat} {j : Nat} (h : j < L.length) : L.drop j = L.getD j 0 :: L.drop (j + 1) := by
  rw [List.drop_eq_getElem_cons h, List.getD_eq_getElem?_getD, List.getElem?_eq_getElem h]
  rfl
theorem take_succ {L : List Nat} {j : Nat} (h : j < L.length) : L.take (j + 1) = L.take j ++ [L.getD j 0] := by
  rw [List.take_add_one, List.getD_eq_getElem?_getD, List.getElem?_eq_getElem h]
  rfl
theorem massL_cons (P : List Pers) (x : Nat) (l : List Nat) : massL P (x :: l) = massP (pg P x) + massL P l := rfl
theorem tallL_snoc (P : List Pers) (x : Nat) (l : List Nat) : tallL P (l ++ [x]) = tallL P l + tallP (pg P x) := by simp [tallL]
theorem getD_mem {L : List Nat} {j : Nat} (h : j < L.length) : L.getD j 0 ∈ L := by
  rw [List.getD_eq_getElem?_getD, List.getElem?_eq_getElem h]
  exact List.getElem_mem h
/-! statics -/
section LF
variable {d : Nat} {h : PH}
theorem t_pick {i n k : Nat} (hg : hG h i = (20, n)) (hn : n < 2 ^ 31) (hk : k < n) : JMt mX7_pick (some .int) d [.ref i, .int (nI k)] h (some (.int (hI h i k))) h := by
  refine jm mi_X7_pick (Nat.le_of_ble_eq_true rfl) ⟨.int, rfl, rfl⟩ rfl (k_X7_pick_R_0 (k_X7_pick_R_4 (fun q => absurd q (nI_lt0 (by omega))) (fun _ => k_X7_pick_R_8 hg (fun q => absurd q (nI_ge hk hn)) (fun _ => k_X7_pick_R_14 hg (vp_in_nI hk hn) ?_))))
  rw [nI_clamp (by omega)]
  exact k_X7_pick_R_21
theorem t_pickC {i k : Nat} (hi : i < 5) (hk : k < (ctab0 i).length) (hn : (ctab0 i).length < 2 ^ 31) : JMt mX7_pick (some .int) d [.retAddr i, .int (nI k)] h (some (.int (cget i k))) h := by
  refine jm mi_X7_pick (Nat.le_of_ble_eq_true rfl) ⟨.int, rfl, rfl⟩ rfl (k_X7_pick_C_0 (k_X7_pick_C_4 (fun q => absurd q (nI_lt0 (by omega))) (fun _ => k_X7_pick_C_8 hi (fun q => absurd q (nI_ge hk hn)) (fun _ => k_X7_pick_C_14 (vp_in_nI hk hn) hi ?_))))
  rw [nI_clamp (by omega)]
  exact k_X7_pick_C_21
theorem t_put {i n k : Nat} {v : Int32} (hg : hG h i = (20, n)) (hn : n < 2 ^ 31) (hk : k < n) : JMt mX7_put none d [.ref i, .int (nI k), .int v] h none (setI h i k v) := by
  refine jm mi_X7_put (Nat.le_of_ble_eq_true rfl) rfl rfl (k_X7_put_0 (k_X7_put_4 (fun q => absurd q (nI_lt0 (by omega))) (fun _ => k_X7_put_8 hg (fun q => absurd q (nI_ge hk hn)) (fun _ => k_X7_put_14 hg (vp_in_nI hk hn) ?_))))
  rw [nI_clamp (by omega)]
  exact k_X7_put_18
end LF
