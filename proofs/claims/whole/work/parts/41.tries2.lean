/-! change, shifted, foot, ahead -/
theorem swapL_in {P : List Pers} {L : List Nat} {a b : Nat} (hL : inP P L) (ha : a < L.length) (hb : b < L.length) : inP P (swapL L a b) := fun x hx => by
  unfold swapL at hx
  rcases List.mem_or_eq_of_mem_set hx with z | z
  · rcases List.mem_or_eq_of_mem_set z with y | y
    · exact hL x y
    · rw [y]; exact hL _ (getD_mem hb)
  · rw [z]; exact hL _ (getD_mem ha)
theorem swapL_len {L : List Nat} {a b : Nat} : (swapL L a b).length = L.length := by simp [swapL]
theorem crs_some {L : List Nat} {p : Nat} (h : (courseF L p 0).isSome = true) : courseF L p 0 = some (crsN L p) ∧ crsN L p < L.length := by
  unfold crsN
  cases hc : courseF L p 0 with
  | none => rw [hc] at h; cases h
  | some k => exact ⟨rfl, (courseF_lt hc).1⟩
section QS
variable {d : Nat} {h : PH} {x : Nat} {O : Nat → Prop} {T : TS} {δ : WS} {R : Nat → Nat × Nat}
def stOK (s : Int × Int) : Prop := (-1 ≤ s.1 ∧ s.1 ≤ 100) ∧ (-400 ≤ s.2 ∧ s.2 ≤ 216)
theorem stOK_chg {σ : WS} {p q : Nat} {s : Int × Int} (hs : stOK s) (hP : ∀ r ∈ σ.1, okP r) (hL : σ.2.1.length ≤ 8) (hp : p < 8) (hq : q < 8) : stOK (chgS σ p q s) := by
  unfold chgS
  split
  · split
    · refine ⟨⟨?_, ?_⟩, slackZ_lsl hP (by rw [swapL_len]; exact hL)⟩
      · show (-1 : Int) ≤ ((10 * p + q : Nat) : Int); omega
      · show ((10 * p + q : Nat) : Int) ≤ 100; omega
    · exact hs
  · exact hs
theorem l_changeIn (hT : okT T) {p : Nat} (hp : p < T.1.1.length) : ∀ m j (h : PH) (L : List Nat) (s : Int × Int), T.1.1.length - j = m → j ≤ T.1.1.length → p < j → stOK s → XC h x O T δ L R →
    ∃ h1 L1, (∀ o h', J mX7_change (d + 10) 134 [some (.ref x), some (.ref (x + 1 + 3)), some (.int (sI (itF (chgS T.1 p) m j s).1)), some (.int (sI (itF (chgS T.1 p) m j s).2)), some (.int (nI p)), some (.int (nI T.1.1.length)), none] [] h1 o h' → J mX7_change (d + 10) 36 [some (.ref x), some (.ref (x + 1 + 3)), some (.int (sI s.1)), some (.int (sI s.2)), some (.int (nI p)), some (.int (nI j)), none] [] h o h') ∧ Upd (pc2 (x + 16) (x + 17)) h h1 ∧ XC h1 x O T δ L1 R := by
  intro m
  induction m with
  | zero =>
    intro j h L s hj hl hpj hs hC
    have e : j = T.1.1.length := by omega
    subst e
    obtain ⟨x1, x2, x3, -⟩ := id hC
    exact ⟨h, L, fun o h' kk => k_X7_change_36 x1.1 x1.2.1 x3.1 x3.2.1 x3.2.2.2.1.1 (fun _ => kk) (fun z => absurd (by rw [x3.2.2.2.1.2.2.2.1]; exact nI_le (by omega) (by have := x3.2.2.2.1.2.2.2.2.1; omega)) z), Upd.rf, hC⟩
  | succ m ih =>
    intro j h L s hj hl hpj hs hC
    obtain ⟨o1, o2, o3, o4, o5, o6⟩ := hT.1
    obtain ⟨x1, x2, x3, x4, x5, x6, -⟩ := id hC
    have n8 := x3.2.2.2.1.2.2.2.2.1
    have ok := x3.2.2.2.1.2.2.2.2.2.2
    have l8 := x3.2.2.2.2.1.2.2.2.2.2.1
    have hjl : j < T.1.1.length := by omega
    have hIp := t_isIn (d := d + 7) (x := p) x3.2.2.2.2.1 o1 n8 (by omega)
    have hIj := t_isIn (d := d + 7) (x := j) x3.2.2.2.2.1 o1 n8 (by omega)
    have hs2 : stOK (chgS T.1 p j s) := stOK_chg hs ok l8 (by omega) (by omega)
    rw [itF]
    have ent : ∀ {o : Option Value} {h' : PH}, J mX7_change (d + 10) 51 [some (.ref x), some (.ref (x + 1 + 3)), some (.int (sI s.1)), some (.int (sI s.2)), some (.int (nI p)), some (.int (nI j)), none] [] h o h' → J mX7_change (d + 10) 36 [some (.ref x), some (.ref (x + 1 + 3)), some (.int (sI s.1)), some (.int (sI s.2)), some (.int (nI p)), some (.int (nI j)), none] [] h o h' := fun kk =>
      k_X7_change_36 x1.1 x1.2.1 x3.1 x3.2.1 x3.2.2.2.1.1 (fun z => absurd z (by rw [x3.2.2.2.1.2.2.2.1]; exact nI_ge hjl (by omega))) (fun _ => kk)
    by_cases hpq : (courseF T.1.2.1 p 0).isSome = true ∧ (courseF T.1.2.1 j 0).isSome = true
    · obtain ⟨hp1, hj1⟩ := hpq
      obtain ⟨cp1, cp2⟩ := crs_some hp1
      obtain ⟨cj1, cj2⟩ := crs_some hj1
      obtain ⟨h1, a1, a2, a3⟩ := t_trial (d := d + 8) hC
      obtain ⟨y1, y2, y3, y4, y5, y6, -⟩ := id a3
      have c1 := t_courseOf (d := d + 8) (x := p) y3.2.2.2.2.1 o1 n8 (by omega)
      have c2 := t_courseOf (d := d + 8) (x := j) y3.2.2.2.2.1 o1 n8 (by omega)
      rw [cp1] at c1
      rw [cj1] at c2
      obtain ⟨h2, b1, b2, b3⟩ := tX2_swap (d := d + 8) y6 cp2 cj2
      have c3 := a3.pile b2 b3
      obtain ⟨z1, z2, z3, z4, z5, z6, -⟩ := id c3
      have hS := t_leastSlack (d := d + 5) z3.2.2.2.1 z6 (swapL_in o1 cp2 cj2) (by rw [swapL_len]; omega)
      have sb := slackZ_lsl (P := T.1.1) (L := swapL T.1.2.1 (crsN T.1.2.1 p) (crsN T.1.2.1 j)) ok (by rw [swapL_len]; exact l8)
      have n1 := sI_neg1 (z := s.1) hs.1.1 (by have := hs.1.2; omega)
      have hs2' := hs.2
      obtain ⟨h3, L2, i1, i2, i3⟩ := ih (j + 1) h2 _ (chgS T.1 p j s) (by omega) (by omega) (by omega) hs2 c3
      have go : ∀ {o : Option Value} {h' : PH}, (sI s.1 = -1 → J mX7_change (d + 10) 116 [some (.ref x), some (.ref (x + 1 + 3)), some (.int (sI s.1)), some (.int (sI s.2)), some (.int (nI p)), some (.int (nI j)), some (.int (sI (lslZ T.1.1 (swapL T.1.2.1 (crsN T.1.2.1 p) (crsN T.1.2.1 j)))))] [] h2 o h') → (¬ sI s.1 = -1 → J mX7_change (d + 10) 110 [some (.ref x), some (.ref (x + 1 + 3)), some (.int (sI s.1)), some (.int (sI s.2)), some (.int (nI p)), some (.int (nI j)), some (.int (sI (lslZ T.1.1 (swapL T.1.2.1 (crsN T.1.2.1 p) (crsN T.1.2.1 j)))))] [] h2 o h') → J mX7_change (d + 10) 36 [some (.ref x), some (.ref (x + 1 + 3)), some (.int (sI s.1)), some (.int (sI s.2)), some (.int (nI p)), some (.int (nI j)), none] [] h o h' := fun k1 k2 =>
        ent (k_X7_change_51 hIp (Or.inl rfl) x3.2.2.2.2.1.1 (fun z => absurd z (by rw [hp1]; decide)) (fun _ => k_X7_change_60 hIj (Or.inl rfl) x3.2.2.2.2.1.1 (fun z => absurd z (by rw [hj1]; decide)) (fun _ => k_X7_change_69 x1.1 x1.2.2.2.2.1 a1 (Or.inl a2.1) x6.1 y1.1 y1.2.2.2.2.1 c1 (Or.inl rfl) y3.2.2.2.2.1.1 c2 (Or.inl rfl) y3.2.2.2.2.1.1 b1 (Or.inl b2.1) y6.1 z1.1 z1.2.2.2.2.1 hS (Or.inl rfl) z6.1 k1 k2)))
      refine ⟨h3, L2, fun o h' kk => ?_, (a2.tr b2).tr i2, i3⟩
      have i1' := i1 o h' kk
      by_cases hlt : s.1 = -1 ∨ s.2 < lslZ T.1.1 (swapL T.1.2.1 (crsN T.1.2.1 p) (crsN T.1.2.1 j))
      · have e : chgS T.1 p j s = (((10 * p + j : Nat) : Int), lslZ T.1.1 (swapL T.1.2.1 (crsN T.1.2.1 p) (crsN T.1.2.1 j))) := by
          unfold chgS
          rw [hp1, hj1, if_pos (by decide), if_pos hlt]
        rw [e] at i1'
        have fin : J mX7_change (d + 10) 116 [some (.ref x), some (.ref (x + 1 + 3)), some (.int (sI s.1)), some (.int (sI s.2)), some (.int (nI p)), some (.int (nI j)), some (.int (sI (lslZ T.1.1 (swapL T.1.2.1 (crsN T.1.2.1 p) (crsN T.1.2.1 j)))))] [] h2 o h' := by
          refine k_X7_change_116 (k_X7_change_128 ?_)
          rw [nI_1, show (10 : Int32) = nI 10 from rfl, pk_mul, nI_add, nI_sI (10 * p + j)]
          exact i1'
        refine go (fun _ => fin) (fun z => k_X7_change_110 (fun z2 => absurd ((sI_le (by omega) (by omega) (by omega) (by omega)).mp z2) ?_) (fun _ => fin))
        rw [n1] at z
        have := hlt.resolve_left z
        omega
      · have e : chgS T.1 p j s = s := by
          unfold chgS
          rw [hp1, hj1, if_pos (by decide), if_neg hlt]
        rw [e] at i1'
        refine go (fun z => absurd (Or.inl (n1.mp z)) hlt) (fun _ => k_X7_change_110 (fun _ => k_X7_change_128 (by rw [nI_1]; exact i1')) (fun z => absurd ((sI_le (by omega) (by omega) (by omega) (by omega)).mpr ?_) z))
        rcases Int.lt_or_le s.2 (lslZ T.1.1 (swapL T.1.2.1 (crsN T.1.2.1 p) (crsN T.1.2.1 j))) with w | w
        · exact absurd (Or.inr w) hlt
        · exact w
    · have e : chgS T.1 p j s = s := by
        unfold chgS
        rw [if_neg (by rw [Bool.and_eq_true]; exact hpq)]
      rw [e]
      obtain ⟨h3, L2, i1, i2, i3⟩ := ih (j + 1) h L s (by omega) (by omega) (by omega) hs hC
      refine ⟨h3, L2, fun o h' kk => ?_, i2, i3⟩
      have fin : J mX7_change (d + 10) 128 [some (.ref x), some (.ref (x + 1 + 3)), some (.int (sI s.1)), some (.int (sI s.2)), some (.int (nI p)), some (.int (nI j)), none] [] h o h' := k_X7_change_128 (by rw [nI_1]; exact i1 o h' kk)
      refine ent (k_X7_change_51 hIp (Or.inl rfl) x3.2.2.2.2.1.1 (fun _ => fin) (fun z => k_X7_change_60 hIj (Or.inl rfl) x3.2.2.2.2.1.1 (fun _ => fin) (fun z2 => absurd ⟨bI_n0.mp z, bI_n0.mp z2⟩ hpq)))
theorem l_change (hT : okT T) : ∀ m j (h : PH) (L : List Nat) (s : Int × Int), T.1.1.length - j = m → j ≤ T.1.1.length → stOK s → XC h x O T δ L R →
    ∃ h1 L1, J mX7_change (d + 10) 15 [some (.ref x), some (.ref (x + 1 + 3)), some (.int (sI s.1)), some (.int (sI s.2)), some (.int (nI j)), none, none] [] h (some (.int (sI (itF (chgR T.1) m j s).1))) h1 ∧ Upd (pc2 (x + 16) (x + 17)) h h1 ∧ XC h1 x O T δ L1 R := by
  intro m
  induction m with
  | zero =>
    intro j h L s hj hl hs hC
    obtain ⟨x1, x2, x3, -⟩ := id hC
    exact ⟨h, L, k_X7_change_15 x1.1 x1.2.1 x3.1 x3.2.1 x3.2.2.2.1.1 (fun _ => k_X7_change_140) (fun z => absurd (by rw [x3.2.2.2.1.2.2.2.1]; exact nI_le (by omega) (by have := x3.2.2.2.1.2.2.2.2.1; omega)) z), Upd.rf, hC⟩
  | succ m ih =>
    intro j h L s hj hl hs hC
    obtain ⟨x1, x2, x3, x4, x5, x6, -⟩ := id hC
    have n8 := x3.2.2.2.1.2.2.2.2.1
    have ok := x3.2.2.2.1.2.2.2.2.2.2
    have l8 := x3.2.2.2.2.1.2.2.2.2.2.1
    have hjl : j < T.1.1.length := by omega
    obtain ⟨h1, L1, a1, a2, a3⟩ := l_changeIn (d := d) hT hjl _ (j + 1) h L s rfl (by omega) (by omega) hs hC
    have hs2 : stOK (chgR T.1 j s) := itF_inv _ _ _ hs (fun i s' hi1 hi2 hs' => stOK_chg hs' ok l8 (by omega) (by omega))
    obtain ⟨h2, L2, i1, i2, i3⟩ := ih (j + 1) h1 L1 (chgR T.1 j s) (by omega) (by omega) hs2 a3
    refine ⟨h2, L2, k_X7_change_15 x1.1 x1.2.1 x3.1 x3.2.1 x3.2.2.2.1.1 (fun z => absurd z (by rw [x3.2.2.2.1.2.2.2.1]; exact nI_ge hjl (by omega))) (fun _ => k_X7_change_30 (by rw [nI_1]; exact a1 _ _ (k_X7_change_134 (by rw [nI_1]; exact i1)))), a2.tr i2, i3⟩
theorem c_change (hX : XS h x O T) : CQ mX7_change (d + 10) [.ref x] h x O T (q_change T.1) := by
  have hX0 := hX
  obtain ⟨hT, δ, L, R, hC⟩ := hX
  have hC0 := hC
  obtain ⟨x1, x2, x3, x4, x5, x6, x7, x8, x9, x10, x11, x12, x13⟩ := hC
  obtain ⟨o1, o2, o3, o4, o5, o6⟩ := hT.1
  have g := x1.1
  have f0 := x1.2.1
  have f3 := x1.2.2.2.2.1
  have W1 := x3.1
  have Wc := x3.2.1
  have Wp := x3.2.2.1
  have C := x3.2.2.2.1
  have Pl := x3.2.2.2.2.1
  have hw := x3.2.2.2.2.2.1
  have hm := x3.2.2.2.2.2.2.1
  have n8 := C.2.2.2.2.1
  have ok := C.2.2.2.2.2.2
  have cn := C.2.2.2.1
  have l8 := Pl.2.2.2.2.2.1
  have sz := Pl.2.2.2.2.1
  obtain ⟨h1, L1, a, b, c⟩ := l_change (d := d) hT _ 0 h L (-1, 0) rfl (Nat.zero_le _) ⟨⟨by decide, by decide⟩, ⟨by decide, by decide⟩⟩ hC0
  exact cqT hT ⟨h1, L1, jm mi_X7_change (Nat.le_of_ble_eq_true rfl) ⟨.int, rfl, rfl⟩ rfl (k_X7_change_0 g f0 W1 Wp a), b, c⟩
theorem onI_no {L : List Nat} {a : Int32} (z : ¬ (0 ≤ a.toInt ∧ a.toInt < L.length)) : onI L a = -1 := if_neg z
theorem c_shifted {a b : Int32} (hX : XS h x O T) : CQ mX7_shifted (d + 10) [.ref x, .int a, .int b] h x O T (q_shifted T.1 a b) := by
  have hX0 := hX
  obtain ⟨hT, δ, L, R, hC⟩ := hX
  have hC0 := hC
  obtain ⟨x1, x2, x3, x4, x5, x6, x7, x8, x9, x10, x11, x12, x13⟩ := hC
  obtain ⟨o1, o2, o3, o4, o5, o6⟩ := hT.1
  have g := x1.1
  have f0 := x1.2.1
  have f3 := x1.2.2.2.2.1
  have W1 := x3.1
  have Wc := x3.2.1
  have Wp := x3.2.2.1
  have C := x3.2.2.2.1
  have Pl := x3.2.2.2.2.1
  have hw := x3.2.2.2.2.2.1
  have hm := x3.2.2.2.2.2.2.1
  have n8 := C.2.2.2.2.1
  have ok := C.2.2.2.2.2.2
  have cn := C.2.2.2.1
  have l8 := Pl.2.2.2.2.2.1
  have sz := Pl.2.2.2.2.1
  have h1 := t_onC (d := d + 8) (a := a) Pl
  have h2 := t_onC (d := d + 8) (a := b) Pl
  unfold q_shifted
  by_cases za : 0 ≤ a.toInt ∧ a.toInt < T.1.2.1.length
  · obtain ⟨i, i1, rfl⟩ := inr (x := a) (n := T.1.2.1.length) (by rw [lt0I]; omega) za.2
    rw [onI_nI i1 l8] at h1
    have hxi := o1 _ (getD_mem i1)
    by_cases zb : 0 ≤ b.toInt ∧ b.toInt < T.1.2.1.length
    · obtain ⟨j, j1, rfl⟩ := inr (x := b) (n := T.1.2.1.length) (by rw [lt0I]; omega) zb.2
      rw [onI_nI j1 l8] at h2
      have hxj := o1 _ (getD_mem j1)
      rw [if_pos ⟨za, zb⟩, nn_I (by omega), nn_I (by omega)]
      obtain ⟨h3, a1, a2, a3⟩ := t_tryWithout (d := d + 7) hC0 i1
      obtain ⟨y1, y2, y3, y4, y5, y6, -⟩ := id a3
      have hdl := delL_len i1
      obtain ⟨h4, b1, b2, b3⟩ := t_insert (d := d + 8) (k := j) (x := T.1.2.1.getD i 0) y6 (by omega) (by omega)
      have c3 := a3.pile b2 b3
      obtain ⟨z1, z2, z3, z4, z5, z6, -⟩ := id c3
      have hF := t_isFirm (d := d + 6) z3.2.2.2.1 z6 (insL_in (delL_in o1) hxi) o4
      exact cqT hT ⟨h4, _, jm mi_X7_shifted (Nat.le_of_ble_eq_true rfl) ⟨.int, rfl, rfl⟩ rfl (k_X7_shifted_0 g f0 W1 Wp h1 (Or.inl rfl) Pl.1 (fun z => absurd z (nI_nneg1 (by omega))) (fun _ => k_X7_shifted_17 g f0 W1 Wp h2 (Or.inl rfl) Pl.1 (fun _ => k_X7_shifted_40 a1 (Or.inl a2.1) g y1.1 y1.2.2.2.2.1 b1 (Or.inl b2.1) y6.1 z1.1 z1.2.2.2.2.1 z1.2.1 z3.1 (by rw [z3.2.2.2.2.2.1]; exact hF) (Or.inl rfl) z6.1 t_oneIf (Or.inl rfl)) (fun z => absurd z (nI_nneg1 (by omega))))), a2.tr b2, c3⟩
    · rw [onI_no zb] at h2
      rw [if_neg (fun z => zb z.2)]
      exact cqR (k := 0) (by omega) hX0 (fun h' r e => jm mi_X7_shifted (Nat.le_of_ble_eq_true rfl) ⟨.int, rfl, rfl⟩ rfl (k_X7_shifted_0 g f0 W1 Wp h1 (Or.inl rfl) Pl.1 (fun z => absurd z (nI_nneg1 (by omega))) (fun _ => k_X7_shifted_17 g f0 W1 Wp h2 (Or.inl rfl) Pl.1 (fun z => absurd rfl z) (fun _ => k_X7_shifted_32 r (Or.inl e) g))))
  · rw [onI_no za] at h1
    rw [if_neg (fun z => za z.1)]
    exact cqR (k := 0) (by omega) hX0 (fun h' r e => jm mi_X7_shifted (Nat.le_of_ble_eq_true rfl) ⟨.int, rfl, rfl⟩ rfl (k_X7_shifted_0 g f0 W1 Wp h1 (Or.inl rfl) Pl.1 (fun _ => k_X7_shifted_32 r (Or.inl e) g) (fun z => absurd rfl z)))
theorem maskL_0 {f : Nat → Bool} {L : List Nat} (hL : L.length ≤ 8) : maskL f L < 2 ^ 31 ∨ True := Or.inr trivial
theorem maskL_lt {f : Nat → Bool} {P : List Pers} {L : List Nat} (hL : inP P L) (h8 : P.length ≤ 8) : maskL f L < 256 := by
  have key : ∀ n, n ≤ L.length → orN (fun k => if f k then 2 ^ L.getD k 0 else 0) n < 2 ^ 8 := by
    intro n
    induction n with
    | zero => intro _; exact Nat.two_pow_pos 8
    | succ n ih =>
      intro hn
      rw [orN]
      refine Nat.or_lt_two_pow (ih (by omega)) ?_
      have := hL _ (getD_mem (L := L) (j := n) (by omega))
      split
      · exact Nat.pow_lt_pow_right (by omega) (by omega)
      · exact Nat.two_pow_pos 8
  exact key _ (Nat.le_refl _)
theorem c_foot {p : Int32} (hX : XS h x O T) : CQ mX7_foot (d + 10) [.ref x, .int p] h x O T (q_foot T.1 p) := by
  have hX0 := hX
  obtain ⟨hT, δ, L, R, hC⟩ := hX
  have hC0 := hC
  obtain ⟨x1, x2, x3, x4, x5, x6, x7, x8, x9, x10, x11, x12, x13⟩ := hC
  obtain ⟨o1, o2, o3, o4, o5, o6⟩ := hT.1
  have g := x1.1
  have f0 := x1.2.1
  have f3 := x1.2.2.2.2.1
  have W1 := x3.1
  have Wc := x3.2.1
  have Wp := x3.2.2.1
  have C := x3.2.2.2.1
  have Pl := x3.2.2.2.2.1
  have hw := x3.2.2.2.2.2.1
  have hm := x3.2.2.2.2.2.2.1
  have n8 := C.2.2.2.2.1
  have ok := C.2.2.2.2.2.2
  have cn := C.2.2.2.1
  have l8 := Pl.2.2.2.2.2.1
  have sz := Pl.2.2.2.2.1
  have hH := t_hasB (d := d + 9) (v := p) C
  unfold q_foot
  cases hp : hasB T.1.1.length p with
  | false =>
    rw [hp] at hH
    rw [if_neg (by decide)]
    exact cqR (k := 0) (by omega) hX0 (fun h1 r e => jm mi_X7_foot (Nat.le_of_ble_eq_true rfl) ⟨.int, rfl, rfl⟩ rfl (k_X7_foot_0 g f0 W1 Wc hH (Or.inl rfl) C.1 (fun z => absurd rfl z) (fun _ => k_X7_foot_14 r (Or.inl e) g)))
  | true =>
    rw [hp] at hH
    rw [if_pos rfl]
    obtain ⟨i, hi, rfl⟩ := hasB_nI hp
    rw [nn_I (by omega)]
    obtain ⟨h1, a1, a2, a3⟩ := t_trial (d := d + 8) hC0
    obtain ⟨y1, y2, y3, y4, y5, y6, -⟩ := id a3
    have hc := t_courseOf (d := d + 8) (x := i) y6 o1 n8 (by omega)
    -- behind the removal
    have tail : ∀ (K : List Nat) (h2 : PH) (v : Int32), footL T.1.2.1 i = insL K 0 i → inP T.1.1 K → K.length < 8 → JMt mX2_courseOf (some .int) (d + 9) [.ref (x + 16), .int (nI i)] h1 (some (.int v)) h1 → JMt mX2_removeAt none (d + 9) [.ref (x + 16), .int v] h1 none h2 → Upd (pc2 (x + 16) (x + 17)) h1 h2 → PileS h2 (x + 16) (x + 1 + 1) (x + 17) K → CQ mX7_foot (d + 10) [.ref x, .int (nI i)] h x O T (.inr (bI (decide (maskL (crushB T.1.1 (footL T.1.2.1 i)) (footL T.1.2.1 i) = 0)))) := by
      intro K h2 v eK hK hK8 hcv hrm hU2 hP2
      have c2 := a3.pile hU2 hP2
      obtain ⟨w1, w2, w3, w4, w5, w6, -⟩ := id c2
      obtain ⟨h3, b1, b2, b3⟩ := t_insert (d := d + 8) (k := 0) (x := i) w6 (Nat.zero_le _) hK8
      rw [← eK] at b3
      have c3 := c2.pile b2 b3
      obtain ⟨z1, z2, z3, z4, z5, z6, -⟩ := id c3
      have hfin : inP T.1.1 (footL T.1.2.1 i) := by rw [eK]; exact insL_in hK hi
      have hcb := t_crushedBits (d := d + 5) z3.2.2.2.1 z6 hfin
      have hml := maskL_lt (f := crushB T.1.1 (footL T.1.2.1 i)) hfin n8
      refine cqT hT ⟨h3, _, jm mi_X7_foot (Nat.le_of_ble_eq_true rfl) ⟨.int, rfl, rfl⟩ rfl (k_X7_foot_0 g f0 W1 Wc hH (Or.inl rfl) C.1 (fun _ => k_X7_foot_22 g f3 f0 W1 Wp a1 (Or.inl a2.1) x6.1 y1.1 y1.2.2.2.2.1 hcv (Or.inl rfl) y6.1 hrm (Or.inl hU2.1) y6.1 w1.1 w1.2.2.2.2.1 b1 (Or.inl b2.1) w6.1 z1.1 z1.2.2.2.2.1 hcb (Or.inl rfl) z6.1 (fun z => k_X7_foot_74 ?_) (fun z => k_X7_foot_70 ?_)) (fun z => absurd z (by decide))), (a2.tr hU2).tr b2, c3⟩
      · have : maskL (crushB T.1.1 (footL T.1.2.1 i)) (footL T.1.2.1 i) ≠ 0 := fun e => z (by rw [e]; rfl)
        rw [show decide (maskL (crushB T.1.1 (footL T.1.2.1 i)) (footL T.1.2.1 i) = 0) = false from decide_eq_false this]
        exact k_X7_foot_75 (t_oneIf (b := false)) (Or.inl rfl)
      · have := (nI_eq (b := 0) (by omega) (by omega)).mp z
        rw [show decide (maskL (crushB T.1.1 (footL T.1.2.1 i)) (footL T.1.2.1 i) = 0) = true from decide_eq_true this]
        exact k_X7_foot_75 (t_oneIf (b := true)) (Or.inl rfl)
    cases hk : courseF T.1.2.1 i 0 with
    | none =>
      rw [hk] at hc
      have hl := not_in_len o2 o1 hi (by rw [hk]; rfl)
      exact tail T.1.2.1 h1 (-1) (by unfold footL; rw [hk]) o1 (by omega) hc (t_removeN y6 (Or.inl (by decide))) Upd.rf y6
    | some k =>
      rw [hk] at hc
      obtain ⟨hkl, -⟩ := courseF_lt hk
      obtain ⟨h2, b1, b2, b3⟩ := t_removeAt (d := d + 8) (k := k) y6 hkl
      exact tail (delL T.1.2.1 k) h2 (nI k) (by unfold footL; rw [hk]) (delL_in o1) (by rw [delL_len hkl]; omega) hc b1 b2 b3
theorem l_ahead (hT : okT T) {n : Nat} {w : Int32} (hn : n ≤ 60) : ∀ m j (h : PH) (s : List Nat × Nat), n - j = m → j ≤ n → inP T.1.1 s.1 → XC h x O T δ s.1 R →
    ∃ h1, (∀ o h', J mX7_ahead (d + 10) 85 [some (.ref x), some (.int (nI n)), some (.int w), some (.int (nI (itF (ahS T.1) m j s).2)), some (.int (nI n))] [] h1 o h' → J mX7_ahead (d + 10) 46 [some (.ref x), some (.int (nI n)), some (.int w), some (.int (nI s.2)), some (.int (nI j))] [] h o h') ∧ Upd (pc2 (x + 16) (x + 17)) h h1 ∧ XC h1 x O T δ (itF (ahS T.1) m j s).1 R ∧ inP T.1.1 (itF (ahS T.1) m j s).1 := by
  intro m
  induction m with
  | zero =>
    intro j h s hj hl hs hC
    have e : j = n := by omega
    subst e
    exact ⟨h, fun o h' kk => k_X7_ahead_46 (fun _ => kk) (fun z => absurd (Int32.le_refl _) z), Upd.rf, hC, hs⟩
  | succ m ih =>
    intro j h s hj hl hs hC
    obtain ⟨o1, o2, o3, o4, o5, o6⟩ := hT.1
    obtain ⟨x1, x2, x3, x4, x5, x6, -⟩ := id hC
    obtain ⟨h1, a1, a2, a3⟩ := t_fellByTurn (d := d + 5) x3.2.2.2.1 x6 hs o5.2 o4 (by unfold pc2; omega) (by unfold pc2; omega)
    have c1 := hC.pile a2 a3
    have ent : ∀ {o : Option Value} {h' : PH}, (bI (!firmB T.1.1 T.1.2.2.1 (turnL T.1.2.2.2.1 T.1.1.length s.1)) = 0 → J mX7_ahead (d + 10) 79 [some (.ref x), some (.int (nI n)), some (.int w), some (.int (nI s.2)), some (.int (nI j))] [] h1 o h') → (¬ bI (!firmB T.1.1 T.1.2.2.1 (turnL T.1.2.2.2.1 T.1.1.length s.1)) = 0 → J mX7_ahead (d + 10) 76 [some (.ref x), some (.int (nI n)), some (.int w), some (.int (nI s.2)), some (.int (nI j))] [] h1 o h') → J mX7_ahead (d + 10) 46 [some (.ref x), some (.int (nI n)), some (.int w), some (.int (nI s.2)), some (.int (nI j))] [] h o h' := fun k1 k2 =>
      k_X7_ahead_46 (fun z => absurd z (nI_ge (by omega) (by omega))) (fun _ => k_X7_ahead_52 x1.1 x1.2.2.2.2.1 x1.2.1 x3.1 (by rw [x3.2.2.2.2.2.2.1, x3.2.2.2.2.2.1]; exact a1) (Or.inl a2.1) x6.1 k1 k2)
    rw [itF]
    unfold ahS
    cases hf : firmB T.1.1 T.1.2.2.1 (turnL T.1.2.2.2.1 T.1.1.length s.1) with
    | true =>
      rw [hf, if_pos rfl] at c1
      rw [if_pos rfl]
      obtain ⟨h2, i1, i2, i3, i4⟩ := ih (j + 1) h1 (turnL T.1.2.2.2.1 T.1.1.length s.1, s.2) (by omega) (by omega) (turnL_in hs) c1
      exact ⟨h2, fun o h' kk => ent (fun _ => k_X7_ahead_79 (by rw [nI_1]; exact i1 o h' kk)) (fun z => absurd (by rw [hf]; rfl) z), a2.tr i2, i3, i4⟩
    | false =>
      rw [hf, if_neg (by decide)] at c1
      rw [if_neg (by decide)]
      obtain ⟨h2, i1, i2, i3, i4⟩ := ih (j + 1) h1 ([], s.2 + 1) (by omega) (by omega) (fun y hy => absurd hy List.not_mem_nil) c1
      exact ⟨h2, fun o h' kk => ent (fun z => absurd z (by rw [hf]; decide)) (fun _ => k_X7_ahead_76 (k_X7_ahead_79 (by rw [nI_1, nI_1]; exact i1 o h' kk))), a2.tr i2, i3, i4⟩
theorem c_ahead {n w : Int32} (hX : XS h x O T) : CQ mX7_ahead (d + 10) [.ref x, .int n, .int w] h x O T (q_ahead T.1 n w) := by
  have hX0 := hX
  obtain ⟨hT, δ, L, R, hC⟩ := hX
  have hC0 := hC
  obtain ⟨x1, x2, x3, x4, x5, x6, x7, x8, x9, x10, x11, x12, x13⟩ := hC
  obtain ⟨o1, o2, o3, o4, o5, o6⟩ := hT.1
  have g := x1.1
  have f0 := x1.2.1
  have f3 := x1.2.2.2.2.1
  have W1 := x3.1
  have Wc := x3.2.1
  have Wp := x3.2.2.1
  have C := x3.2.2.2.1
  have Pl := x3.2.2.2.2.1
  have hw := x3.2.2.2.2.2.1
  have hm := x3.2.2.2.2.2.2.1
  have n8 := C.2.2.2.2.1
  have ok := C.2.2.2.2.2.2
  have cn := C.2.2.2.1
  have l8 := Pl.2.2.2.2.2.1
  have sz := Pl.2.2.2.2.1
  unfold q_ahead
  cases hb : inB n 0 60 with
  | false =>
    rw [Bool.false_and, if_neg (by decide)]
    have hb := of_decide_eq_false hb
    refine cqR (k := 0) (by omega) hX0 (fun h1 r e => jm mi_X7_ahead (Nat.le_of_ble_eq_true rfl) ⟨.int, rfl, rfl⟩ rfl (k_X7_ahead_0 (fun _ => k_X7_ahead_19 r (Or.inl e) g) (fun z => k_X7_ahead_4 (fun _ => k_X7_ahead_19 r (Or.inl e) g) (fun z2 => ?_))))
    rw [lt0I] at z
    rw [show (60 : Int32) = nI 60 from rfl, gtLit (by omega)] at z2
    omega
  | true =>
    rw [Bool.true_and]
    obtain ⟨n, hn, rfl⟩ := inB_nI (n := 60) (by omega) hb
    cases hb2 : inB w 0 3 with
    | false =>
      rw [if_neg (by decide)]
      have hb := of_decide_eq_false hb2
      refine cqR (k := 0) (by omega) hX0 (fun h1 r e => jm mi_X7_ahead (Nat.le_of_ble_eq_true rfl) ⟨.int, rfl, rfl⟩ rfl (k_X7_ahead_0 (fun _ => k_X7_ahead_19 r (Or.inl e) g) (fun z => k_X7_ahead_4 (fun _ => k_X7_ahead_19 r (Or.inl e) g) (fun _ => k_X7_ahead_10 (fun _ => k_X7_ahead_19 r (Or.inl e) g) (fun z => k_X7_ahead_14 (fun z2 => ?_) (fun _ => k_X7_ahead_19 r (Or.inl e) g))))))
      rw [lt0I] at z
      rw [show (3 : Int32) = nI 3 from rfl, leLit (by omega)] at z2
      omega
    | true =>
      rw [if_pos rfl]
      obtain ⟨w, hw3, rfl⟩ := inB_nI (n := 3) (by omega) hb2
      rw [nn_I (by omega), nn_I (by omega)]
      have ww : (nI w).toInt = w := nI_toInt (by omega)
      obtain ⟨h1, a1, a2, a3⟩ := t_trial (d := d + 8) hC0
      obtain ⟨h2, i1, i2, i3, i4⟩ := l_ahead (d := d) (w := nI w) hT hn _ 0 h1 (T.1.2.1, 0) rfl (Nat.zero_le _) o1 a3
      rw [Nat.sub_zero] at i1 i3 i4
      obtain ⟨z1, z2, z3, z4, z5, z6, -⟩ := id i3
      have ent : ∀ {v : Int32}, J mX7_ahead (d + 10) 85 [some (.ref x), some (.int (nI n)), some (.int (nI w)), some (.int (nI (itF (ahS T.1) n 0 (T.1.2.1, 0)).2)), some (.int (nI n))] [] h2 (some (.int v)) h2 → CQ mX7_ahead (d + 10) [.ref x, .int (nI n), .int (nI w)] h x O T (.inr v) := fun kk =>
        cqT hT ⟨h2, _, jm mi_X7_ahead (Nat.le_of_ble_eq_true rfl) ⟨.int, rfl, rfl⟩ rfl (k_X7_ahead_0 (fun z => absurd z (nI_lt0 (by omega))) (fun z => k_X7_ahead_4 (fun z => absurd z (nI_nlt (a := 60) hn (by omega))) (fun _ => k_X7_ahead_10 (fun z => absurd z (nI_lt0 (by omega))) (fun _ => k_X7_ahead_14 (fun _ => k_X7_ahead_27 g f3 f0 W1 Wp a1 (Or.inl a2.1) x6.1 (i1 _ _ kk)) (fun z => absurd (nI_le (b := 3) hw3 (by omega)) z))))), a2.tr i2, i3⟩
      have : w = 0 ∨ w = 1 ∨ w = 2 ∨ w = 3 := by omega
      rcases this with rfl | rfl | rfl | rfl
      · exact ent (k_X7_ahead_85 (fun z => absurd z (by omega)) (fun _ => k_X7_ahead_112 z1.1 z1.2.2.2.2.1 (t_tallnessOfAll z3.2.2.2.1 z6 i4) (Or.inl rfl) z6.1) (fun z => absurd z (by decide)) (fun z => absurd z (by decide)))
      · refine ent (k_X7_ahead_85 (fun z => absurd z (by omega)) (fun z => absurd z (by decide)) (fun _ => ?_) (fun z => absurd z (by decide)))
        have := k_X7_ahead_120 (d := d + 10) (a1 := nI n) (a2 := nI 1) (a3 := nI (itF (ahS T.1) n 0 (T.1.2.1, 0)).2) (a4 := nI n) z1.1 z1.2.2.2.2.1 z6.1
        rw [z6.2.2.2.2.1] at this
        exact this
      · exact ent (k_X7_ahead_85 (fun z => absurd z (by omega)) (fun z => absurd z (by decide)) (fun z => absurd z (by decide)) (fun _ => k_X7_ahead_128))
      · exact ent (k_X7_ahead_85 (fun _ => k_X7_ahead_130 z1.1 z1.2.2.2.2.1 (tX2_head z6) (Or.inl rfl) z6.1) (fun z => absurd z (by decide)) (fun z => absurd z (by decide)) (fun z => absurd z (by decide)))
end QS
