/-! what is made: new cells; row, copy, back, status -/
theorem vv_o {n : Nat} : VA n [] [] := ⟨fun v hv => absurd hv List.not_mem_nil, fun v hv => absurd hv List.not_mem_nil⟩
theorem vv_l {n : Nat} {v : Value} {ls : List (Option Value)} {st : List Value} (h : okv n v) (a : VA n ls st) : VA n (some v :: ls) st := ⟨fun w hw => by
  rcases List.mem_cons.mp hw with e | e
  · cases e; exact h
  · exact a.1 w e, a.2⟩
theorem vv_n {n : Nat} {ls : List (Option Value)} {st : List Value} (a : VA n ls st) : VA n (none :: ls) st := ⟨fun w hw => by
  rcases List.mem_cons.mp hw with e | e
  · cases e
  · exact a.1 w e, a.2⟩
theorem vv_s {n : Nat} {v : Value} {ls : List (Option Value)} {st : List Value} (h : okv n v) (a : VA n ls st) : VA n ls (v :: st) := ⟨a.1, fun w hw => by
  rcases List.mem_cons.mp hw with e | e
  · rw [e]; exact h
  · exact a.2 w e⟩
section NW
variable {h h1 : PH} {t n w : Nat}
theorem hn_newC : hn (newC h t n w) = hn h + 1 := rfl
theorem hs_newC : hs (newC h t n w) = hs h + w := rfl
theorem newG : hG (newC h t n w) (hn h) = (t, n) := by
  unfold hG
  rw [if_pos (by rw [hn_newC]; omega)]
  show (if hn h = h.1 then (t, n) else h.2.2.1 (hn h)) = (t, n)
  exact if_pos rfl
theorem newI {k : Nat} : hI (newC h t n w) (hn h) k = 0 := by
  show (if hn h = h.1 then 0 else h.2.2.2.1 (hn h) k) = 0
  exact if_pos rfl
theorem newL {k : Nat} : hL (newC h t n w) (hn h) k = 0 := by
  show (if hn h = h.1 then 0 else h.2.2.2.2.1 (hn h) k) = 0
  exact if_pos rfl
theorem newR {k : Nat} : hR (newC h t n w) (hn h) k = none := by
  show (if hn h = h.1 then none else h.2.2.2.2.2 (hn h) k) = none
  exact if_pos rfl
theorem Chg.newC {S : Nat → Prop} : Chg S h (newC h t n w) := ⟨Nat.le_add_right _ _, Nat.le_add_right _ _, fun i hi => by
  have hne : ¬ i = h.1 := Nat.ne_of_lt hi
  refine ⟨if_neg hne, fun _ => ⟨?_, ?_, ?_⟩⟩
  · funext k; exact if_neg hne
  · funext k; exact if_neg hne
  · funext k; exact if_neg hne⟩
end NW
section RO
variable {d : Nat} {h h1 : PH} {x : Nat} {O : Nat → Prop} {T : TS} {δ : WS} {L : List Nat} {R : Nat → Nat × Nat}
theorem t_rowInit {r sort n : Nat} (hr : hG h r = (4, 2)) (hso : sort ≤ 4) (hn' : n ≤ 40) : ∃ h1, JMt mX4_init none (d + 1) [.ref r, .int (nI sort), .int (nI n)] h none h1 ∧ Chg (fun i => i = r) h h1 ∧ hn h1 = hn h + 1 ∧ hs h1 = hs h + n ∧ RowS h1 r (hn h) sort n (fun _ => 0) := by
  have hrl := (hG_lt hr (by omega)).1
  have e1 : (if (40 : Int32) < (if nI n < (0 : Int32) then (0 : Int32) else nI n) then (40 : Int32) else (if nI n < (0 : Int32) then (0 : Int32) else nI n)) = nI n := by
    rw [if_neg (nI_lt0 (n := n) (by omega)), show (40 : Int32) = nI 40 from rfl, if_neg (nI_nlt (a := 40) hn' (by omega))]
  have c1 : Chg (fun i => i = r) h (setI h r 0 (nI sort)) := Chg.setI rfl
  have c2 : Chg (fun i => i = r) (setI h r 0 (nI sort)) (newC (setI h r 0 (nI sort)) 22 n n) := Chg.newC
  have c3 : Chg (fun i => i = r) (newC (setI h r 0 (nI sort)) 22 n n) (setR (newC (setI h r 0 (nI sort)) 22 n n) r 1 (some (hn h))) := Chg.setR rfl
  have g1 : hG (setI h r 0 (nI sort)) r = (4, 2) := hr
  have g2 : hG (newC (setI h r 0 (nI sort)) 22 n n) r = (4, 2) := c2.gg g1 (by omega)
  have gN : hG (newC (setI h r 0 (nI sort)) 22 n n) (hn h) = (22, n) := newG (h := setI h r 0 (nI sort))
  refine ⟨_, jm mi_X4_init (Nat.le_of_ble_eq_true rfl) rfl rfl (k_X4_init_0 hr rfl (by rw [e1]; exact nI_lt0 (by omega)) (by rw [e1, nI_clamp (by omega)]) (by omega) (vv_l hrl (vv_l trivial (vv_l trivial (vv_s hrl vv_o)))) rfl g2 gN (by omega) rfl), (c1.tr c2).tr c3, rfl, rfl, g2, ?_, ?_, gN, hn', hso, fun k hk => ?_⟩
  · rw [hI_setR]
    have := (c2.2.2 r hrl).2
    show hI (newC (setI h r 0 (nI sort)) 22 n n) r 0 = nI sort
    have e : hI (newC (setI h r 0 (nI sort)) 22 n n) r = hI (setI h r 0 (nI sort)) r := by
      funext k; exact if_neg (Nat.ne_of_lt hrl)
    rw [e, hI_setI, if_pos ⟨rfl, rfl⟩]
  · rw [hR_setR, if_pos ⟨rfl, rfl⟩]; rfl
  · rw [hL_setR]
    exact newL (h := setI h r 0 (nI sort))
theorem c_row {s sort n : Int32} (hX : XS h x O T) : CM mX7_row .int (d + 10) [.ref x, .int s, .int sort, .int n] h x O (.int (s_row T s sort n).1) (s_row T s sort n).2 := by
  have hX0 := hX
  obtain ⟨hT, δ, L, R, hC⟩ := hX
  have hC0 := hC
  obtain ⟨x1, x2, x3, x4, x5, x6, x7, x8, x9, x10, x11, x12, x13⟩ := hC
  obtain ⟨o1, o2, o3, o4, o5, o6⟩ := hT.1
  have g := x1.1
  have f0 := x1.2.1
  have f3 := x1.2.2.2.2.1
  have W1 := x3.1
  have Wc := x3.2.1
  have Wp := x3.2.2.1
  have C := x3.2.2.2.1
  have Pl := x3.2.2.2.2.1
  have hw := x3.2.2.2.2.2.1
  have hm := x3.2.2.2.2.2.2.1
  have n8 := C.2.2.2.2.1
  have ok := C.2.2.2.2.2.2
  have cn := C.2.2.2.1
  have l8 := Pl.2.2.2.2.2.1
  have sz := Pl.2.2.2.2.1
  have hS := t_isShelf (d := d + 9) (h := h) (s := s)
  have hxl := (hG_lt g (by omega)).1
  unfold s_row
  cases hb : inB s 0 7 with
  | false =>
    rw [hb] at hS
    rw [Bool.false_and, Bool.false_and, if_neg (by decide)]
    exact CU.cm hX0 (cuR (k := 0) (by omega) hX0 (fun h1 r e => jm mi_X7_row (Nat.le_of_ble_eq_true rfl) ⟨.int, rfl, rfl⟩ rfl (k_X7_row_0 hS (Or.inl rfl) (fun _ => k_X7_row_26 r (Or.inl e) g) (fun z => absurd rfl z))))
  | true =>
    rw [hb] at hS
    rw [Bool.true_and]
    obtain ⟨k, hk, rfl⟩ := inB_nI (n := 7) (by omega) hb
    rw [nn_I (k := k) (by omega)]
    cases hb2 : inB sort 0 4 with
    | false =>
      rw [Bool.false_and, if_neg (by decide)]
      have hb2 := of_decide_eq_false hb2
      refine CU.cm hX0 (cuR (k := 0) (by omega) hX0 (fun h1 r e => jm mi_X7_row (Nat.le_of_ble_eq_true rfl) ⟨.int, rfl, rfl⟩ rfl (k_X7_row_0 hS (Or.inl rfl) (fun z => absurd z (by decide)) (fun _ => k_X7_row_7 (fun _ => k_X7_row_26 r (Or.inl e) g) (fun z => k_X7_row_11 (fun _ => k_X7_row_26 r (Or.inl e) g) (fun z2 => ?_))))))
      rw [lt0I] at z
      rw [show (5 : Int32) = nI 5 from rfl, geLit (by omega)] at z2
      omega
    | true =>
      rw [Bool.true_and]
      obtain ⟨sort, hso, rfl⟩ := inB_nI (n := 4) (by omega) hb2
      cases hb3 : inB n 0 40 with
      | false =>
        rw [if_neg (by decide)]
        have hb3 := of_decide_eq_false hb3
        refine CU.cm hX0 (cuR (k := 0) (by omega) hX0 (fun h1 r e => jm mi_X7_row (Nat.le_of_ble_eq_true rfl) ⟨.int, rfl, rfl⟩ rfl (k_X7_row_0 hS (Or.inl rfl) (fun z => absurd z (by decide)) (fun _ => k_X7_row_7 (fun z => absurd z (nI_lt0 (by omega))) (fun z => k_X7_row_11 (fun z => absurd z (nI_ge (b := 5) (by omega) (by omega))) (fun _ => k_X7_row_16 (fun _ => k_X7_row_26 r (Or.inl e) g) (fun z => k_X7_row_20 (fun z2 => ?_) (fun _ => k_X7_row_26 r (Or.inl e) g))))))))
        rw [lt0I] at z
        rw [show (40 : Int32) = nI 40 from rfl, leLit (by omega)] at z2
        omega
      | true =>
        rw [if_pos rfl]
        obtain ⟨n, hn40, rfl⟩ := inB_nI (n := 40) (by omega) hb3
        rw [nn_I (by omega), nn_I (by omega)]
        have hxl' : x + 31 < hn h := (hG_lt x1.2.2.2.2.2.2.2.2.2.2.2.2.2 (by omega)).1
        have a1 : Chg (fun i => False) h (newC h 4 2 2) := Chg.newC
        have gr : hG (newC h 4 2 2) (hn h) = (4, 2) := newG
        obtain ⟨h2, b1, b2, b3, b4, b5⟩ := t_rowInit (d := d + 8) (r := hn h) gr hso hn40
        have bb : Chg (fun i => i = hn h) h h2 := (a1.mono (fun i y => y.elim)).tr b2
        have X2 : XH h2 x := by
          have := (XC.shelf (F := T.2.2.1) (R' := R) (O' := O) hC0 bb (fun i (y : i = hn h) hi => by unfold inX at hi; omega) (fun s hs => (x11 s hs).oth bb (by rw [(bb.at x1.2.2.2.2.2.2.2.2.2.2.2.1 (by omega) (by have := (hG_lt x1.2.2.2.2.2.2.2.2.2.2.2.1 (by omega)).1; omega)).2.2]) (by rw [(bb.at x1.2.2.2.2.2.2.2.2.2.2.2.2.1 (by omega) (by have := (hG_lt x1.2.2.2.2.2.2.2.2.2.2.2.2.1 (by omega)).1; omega)).1]) (fun hr => by have := row_out (x11 s hs) hr; exact ⟨by omega, by omega⟩) (fun i y => y)) x12 x13).1
          exact this
        have hpl := t_placeR (d := d + 8) (s := k) (r := hn h) (v := -1) X2 b5.1 (by omega)
        have cg : Chg (fun i => i = x + 29 ∨ i = x + 30) h2 (setI (setR h2 (x + 29) k (some (hn h))) (x + 30) k (-1)) := (Chg.setR (Or.inl rfl)).tr (Chg.setI (Or.inr rfl))
        have g29 := x1.2.2.2.2.2.2.2.2.2.2.2.1
        have g30 := x1.2.2.2.2.2.2.2.2.2.2.2.2.1
        have l29 := (hG_lt g29 (by omega)).1
        have l30 := (hG_lt g30 (by omega)).1
        have r29 : ∀ t, hR (setI (setR h2 (x + 29) k (some (hn h))) (x + 30) k (-1)) (x + 29) t = if t = k then some (hn h) else hR h (x + 29) t := fun t => by
          rw [hR_setI, hR_setR]
          by_cases e : t = k
          · rw [if_pos ⟨rfl, e⟩, if_pos e]
          · rw [if_neg (fun z => e z.2), if_neg e, (bb.at g29 (by omega) (by omega)).2.2]
        have i30 : ∀ t, hI (setI (setR h2 (x + 29) k (some (hn h))) (x + 30) k (-1)) (x + 30) t = if t = k then -1 else hI h (x + 30) t := fun t => by
          rw [hI_setI, hI_setR]
          by_cases e : t = k
          · rw [if_pos ⟨rfl, e⟩, if_pos e]
          · rw [if_neg (fun z => e z.2), if_neg e, (bb.at g30 (by omega) (by omega)).1]
        have call : Chg (fun i => i = x + 29 ∨ i = x + 30 ∨ i = hn h) h (setI (setR h2 (x + 29) k (some (hn h))) (x + 30) k (-1)) := (bb.mono (fun i y => Or.inr (Or.inr y))).tr (cg.mono (fun i y => y.elim Or.inl (fun w => Or.inr (Or.inl w))))
        have hn2 : hn h2 = hn h + 2 := by rw [b3]; rfl
        refine ⟨_, fun i => O i ∨ hn h ≤ i, jm mi_X7_row (Nat.le_of_ble_eq_true rfl) ⟨.int, rfl, rfl⟩ rfl (k_X7_row_0 hS (Or.inl rfl) (fun z => absurd z (by decide)) (fun _ => k_X7_row_7 (fun z => absurd z (nI_lt0 (by omega))) (fun z => k_X7_row_11 (fun z => absurd z (nI_ge (b := 5) (by omega) (by omega))) (fun _ => k_X7_row_16 (fun z => absurd z (nI_lt0 (by omega))) (fun _ => k_X7_row_20 (fun _ => k_X7_row_34 (vv_l hxl (vv_l trivial (vv_l trivial (vv_l trivial (vv_s trivial (vv_s hxl vv_o)))))) rfl b1 (Or.inr ?_) hpl (Or.inl rfl) X2.1) (fun z => absurd (nI_le (b := 40) hn40 (by omega)) z)))))), ?_, fun i hi => ⟨fun y => y.resolve_right (by omega), Or.inl⟩, ⟨by show hn h2 ≤ _; omega, by show hs h2 ≤ _; rw [b4]; show hs h + 2 + n ≤ hs h + 42; omega⟩, okT_upd hT (fun i z => by cases z), δ, L, fun t => if t = k then (hn h, hn h + 1) else R t, ?_⟩
        · exact vv_l (show x < hn h + 1 by omega) (vv_l trivial (vv_l trivial (vv_l trivial (vv_s (show hn h < hn h + 1 by omega) (vv_s trivial (vv_s (show x < hn h + 1 by omega) vv_o))))))
        · refine ⟨call.1, call.2.1, fun i hi => ⟨(call.2.2 i hi).1, fun y => (call.2.2 i hi).2 (fun w => ?_)⟩⟩
          rcases w with w | w | w
          · exact y (x13 i (by unfold inX; omega))
          · exact y (x13 i (by unfold inX; omega))
          · omega
        · refine XC.shelf hC0 call (fun i y hi => by rcases y with y | y | y; exact Or.inl y; exact Or.inr y; unfold inX at hi; omega) (fun t ht => ?_) (fun t u ht hu htu h1 h2' => ?_) (fun i hi => Or.inl (x13 i hi))
          · by_cases e : t = k
            · subst e
              show shfS _ x _ t (if t = t then (hn h, hn h + 1) else R t) (if t = t then _ else T.2.2.1 t)
              rw [if_pos rfl, if_pos rfl]
              refine ⟨by rw [r29, if_pos rfl], by rw [i30, if_pos rfl], ?_, ⟨by omega, Or.inr (Nat.le_refl _)⟩, ⟨by omega, Or.inr (by omega)⟩⟩
              exact b5.chg cg (by omega) (by show ¬ (hn h + 1 = x + 29 ∨ hn h + 1 = x + 30); omega)
            · show shfS _ x _ t (if t = k then (hn h, hn h + 1) else R t) (if t = k then _ else T.2.2.1 t)
              rw [if_neg e, if_neg e]
              refine (x11 t ht).oth call (by rw [r29, if_neg e]) (by rw [i30, if_neg e]) (fun hr => ?_) (fun i y => Or.inl y)
              have := row_out (x11 t ht) hr
              exact ⟨by omega, by omega⟩
          · have h1 : isRowB (if t = k then _ else T.2.2.1 t) = true := h1
            have h2' : isRowB (if u = k then _ else T.2.2.1 u) = true := h2'
            show (if t = k then (hn h, hn h + 1) else R t).2 ≠ (if u = k then (hn h, hn h + 1) else R u).2
            by_cases e : t = k
            · have e2 : u ≠ k := fun y => htu (by rw [e, y])
              rw [if_neg e2] at h2'
              rw [if_pos e, if_neg e2]
              have := row_out (x11 u hu) h2'
              show hn h + 1 ≠ (R u).2
              omega
            · rw [if_neg e] at h1
              rw [if_neg e]
              have := row_out (x11 t ht) h1
              by_cases e2 : u = k
              · rw [if_pos e2]
                show (R t).2 ≠ hn h + 1
                omega
              · rw [if_neg e2] at h2'
                rw [if_neg e2]
                exact x12 t u ht hu htu h1 h2'
theorem spanI {i n : Int32} {m : Nat} (hm : m ≤ 40) : (¬ i < 0 ∧ ¬ n < 0 ∧ ¬ nI m < n ∧ ¬ nI m - n < i) ↔ (0 ≤ i.toInt ∧ 0 ≤ n.toInt ∧ i.toInt + n.toInt ≤ m) := by
  rw [lt0I, lt0I, gtLit (by omega)]
  constructor
  · rintro ⟨h1, h2, h3, h4⟩
    obtain ⟨k, hk, rfl⟩ := inr (x := n) (n := 41) (by rw [lt0I]; exact h2) (by omega)
    rw [nI_toInt (by omega)] at h3 ⊢
    rw [pk_sub (by omega), fa_lt, nI_toInt (by omega)] at h4
    omega
  · rintro ⟨h1, h2, h3⟩
    obtain ⟨k, hk, rfl⟩ := inr (x := n) (n := 41) (by rw [lt0I]; omega) (by omega)
    rw [nI_toInt (by omega)] at h3 ⊢
    refine ⟨by omega, by omega, by omega, ?_⟩
    rw [pk_sub (by omega), fa_lt, nI_toInt (by omega)]
    omega
theorem Chg.cpyL {S : Nat → Prop} {i0 i1 sp dp n : Nat} (hi : S i1) : Chg S h (cpyL h i0 i1 sp dp n) := ⟨Nat.le_refl _, Nat.le_refl _, fun i _ => ⟨rfl, fun q => ⟨rfl, by funext k; rw [hL_cpyL, if_neg (fun e => q (by rw [e.1]; exact hi))], rfl⟩⟩⟩
theorem c_copy {p q i j n : Int32} (hX : XS h x O T) : CM mX7_copy .int (d + 10) [.ref x, .int p, .int q, .int i, .int j, .int n] h x O (.int (s_copy T p q i j n).1) (s_copy T p q i j n).2 := by
  have hX0 := hX
  obtain ⟨hT, δ, L, R, hC⟩ := hX
  have hC0 := hC
  obtain ⟨x1, x2, x3, x4, x5, x6, x7, x8, x9, x10, x11, x12, x13⟩ := hC
  obtain ⟨o1, o2, o3, o4, o5, o6⟩ := hT.1
  have g := x1.1
  have f0 := x1.2.1
  have f3 := x1.2.2.2.2.1
  have W1 := x3.1
  have Wc := x3.2.1
  have Wp := x3.2.2.1
  have C := x3.2.2.2.1
  have Pl := x3.2.2.2.2.1
  have hw := x3.2.2.2.2.2.1
  have hm := x3.2.2.2.2.2.2.1
  have n8 := C.2.2.2.2.1
  have ok := C.2.2.2.2.2.2
  have cn := C.2.2.2.1
  have l8 := Pl.2.2.2.2.2.1
  have sz := Pl.2.2.2.2.1
  have hS1 := t_isShelf (d := d + 9) (h := h) (s := p)
  have hS2 := t_isShelf (d := d + 9) (h := h) (s := q)
  unfold s_copy
  cases hb : inB p 0 7 with
  | false =>
    rw [hb] at hS1
    rw [Bool.false_and, if_neg (by decide)]
    exact CU.cm hX0 (cuR (k := 0) (by omega) hX0 (fun h1 r e => jm mi_X7_copy (Nat.le_of_ble_eq_true rfl) ⟨.int, rfl, rfl⟩ rfl (k_X7_copy_0 hS1 (Or.inl rfl) (fun _ => k_X7_copy_14 r (Or.inl e) g) (fun z => absurd rfl z))))
  | true =>
    rw [hb] at hS1
    rw [Bool.true_and]
    cases hb2 : inB q 0 7 with
    | false =>
      rw [hb2] at hS2
      rw [if_neg (by decide)]
      exact CU.cm hX0 (cuR (k := 0) (by omega) hX0 (fun h1 r e => jm mi_X7_copy (Nat.le_of_ble_eq_true rfl) ⟨.int, rfl, rfl⟩ rfl (k_X7_copy_0 hS1 (Or.inl rfl) (fun z => absurd z (by decide)) (fun _ => k_X7_copy_7 hS2 (Or.inl rfl) (fun z => absurd rfl z) (fun _ => k_X7_copy_14 r (Or.inl e) g)))))
    | true =>
      rw [hb2] at hS2
      rw [if_pos rfl]
      obtain ⟨a, ha, rfl⟩ := inB_nI (n := 7) (by omega) hb
      obtain ⟨b, hb7, rfl⟩ := inB_nI (n := 7) (by omega) hb2
      rw [nn_I (k := b) (by omega)]
      have hP := t_isShown (d := d + 8) (s := nI a) hT hC0
      have hQ := t_isShown (d := d + 8) (s := nI b) hT hC0
      obtain ⟨r, hr, hmr⟩ := t_rowOn (d := d + 9) (s := nI a) hC0
      obtain ⟨r', hr', hmr'⟩ := t_rowOn (d := d + 9) (s := nI b) hC0
      rw [shfA_in (by omega)] at hP hmr ⊢
      rw [shfA_in (by omega)] at hQ hmr' ⊢
      have hqa := x11 a (by omega)
      have hqb := x11 b (by omega)
      have ent : ∀ {o : Option Value} {h' : PH}, RetT (some .int) o → J mX7_copy (d + 10) 22 [some (.ref x), some (.int (nI a)), some (.int (nI b)), some (.int i), some (.int j), some (.int n), none, none] [] h o h' → JMt mX7_copy (some .int) (d + 10) [.ref x, .int (nI a), .int (nI b), .int i, .int j, .int n] h o h' := fun rt kk =>
        jm mi_X7_copy (Nat.le_of_ble_eq_true rfl) rt rfl (k_X7_copy_0 hS1 (Or.inl rfl) (fun z => absurd z (by decide)) (fun _ => k_X7_copy_7 hS2 (Or.inl rfl) (fun _ => kk) (fun z => absurd z (by decide))))
      generalize hTa : T.2.2.1 a = qa at hP hmr hqa ⊢
      generalize hTb : T.2.2.1 b = qb at hQ hmr' hqb ⊢
      cases ha1 : isShB qa with
      | true =>
        rw [Bool.true_or, if_pos rfl]
        exact CU.cm hX0 (cuR (k := 1) (by omega) hX0 (fun h1 r e => ent ⟨.int, rfl, rfl⟩ (k_X7_copy_22 hP (Or.inl rfl) g (fun _ => k_X7_copy_38 r (Or.inl e) g) (fun z => absurd z (by rw [ha1]; decide)))))
      | false =>
        rw [Bool.false_or]
        cases hb1 : isShB qb with
        | true =>
          rw [if_pos rfl]
          exact CU.cm hX0 (cuR (k := 1) (by omega) hX0 (fun h1 r e => ent ⟨.int, rfl, rfl⟩ (k_X7_copy_22 hP (Or.inl rfl) g (fun z => absurd (by rw [ha1]; rfl) z) (fun _ => k_X7_copy_30 hQ (Or.inl rfl) g (fun z => absurd z (by rw [hb1]; decide)) (fun _ => k_X7_copy_38 r (Or.inl e) g)))))
        | false =>
          rw [if_neg (by decide)]
          have ent2 : ∀ {o : Option Value} {h' : PH}, RetT (some .int) o → (r = none → J mX7_copy (d + 10) 91 [some (.ref x), some (.int (nI a)), some (.int (nI b)), some (.int i), some (.int j), some (.int n), some (qv r), some (qv r')] [] h o h') → (∀ y, r = some y → J mX7_copy (d + 10) 65 [some (.ref x), some (.int (nI a)), some (.int (nI b)), some (.int i), some (.int j), some (.int n), some (qv r), some (qv r')] [] h o h') → JMt mX7_copy (some .int) (d + 10) [.ref x, .int (nI a), .int (nI b), .int i, .int j, .int n] h o h' := fun rt k1 k2 =>
            ent rt (k_X7_copy_22 hP (Or.inl rfl) g (fun z => absurd (by rw [ha1]; rfl) z) (fun _ => k_X7_copy_30 hQ (Or.inl rfl) g (fun _ => k_X7_copy_46 hr (Or.inl rfl) g hr' (Or.inl rfl) g k1 k2) (fun z => absurd (by rw [hb1]; rfl) z)))
          -- NOTHING
          have none1 : r = none → CM mX7_copy .int (d + 10) [.ref x, .int (nI a), .int (nI b), .int i, .int j, .int n] h x O (.int (rfI 2)) (rfT T 2) := fun e =>
            CU.cm hX0 (cuR (k := 2) (by omega) hX0 (fun h1 r1 e1 => ent2 ⟨.int, rfl, rfl⟩ (fun _ => k_X7_copy_91 (fun _ => k_X7_copy_101 r1 (Or.inl e1) g) (fun y z => by rw [e] at z; cases z)) (fun y z => by rw [e] at z; cases z)))
          have none2 : r' = none → CM mX7_copy .int (d + 10) [.ref x, .int (nI a), .int (nI b), .int i, .int j, .int n] h x O (.int (rfI 2)) (rfT T 2) := fun e =>
            CU.cm hX0 (cuR (k := 2) (by omega) hX0 (fun h1 r1 e1 => by
              have fin : J mX7_copy (d + 10) 91 [some (.ref x), some (.int (nI a)), some (.int (nI b)), some (.int i), some (.int j), some (.int n), some (qv r), some (qv r')] [] h (some (.int (rfI 2))) h1 := k_X7_copy_91 (fun _ => k_X7_copy_101 r1 (Or.inl e1) g) (fun y z => k_X7_copy_96 (fun _ => k_X7_copy_101 r1 (Or.inl e1) g) (fun y z => by rw [e] at z; cases z))
              exact ent2 ⟨.int, rfl, rfl⟩ (fun _ => fin) (fun y z => k_X7_copy_65 (fun _ => fin) (fun y z => by rw [e] at z; cases z))))
          match qa, qb, ha1, hb1, hmr, hmr', hqa, hqb, hTa, hTb with
          | none, none, _, _, hmr, hmr', _, _, _, _ => exact none1 hmr
          | none, some (.inr _), _, _, hmr, hmr', _, _, _, _ => exact none1 hmr
          | some (.inr _), none, _, _, hmr, hmr', _, _, _, _ => exact none2 hmr'
          | some (.inr (sort, m, v)), some (.inr (sort', m', u)), _, _, hmr, hmr', hqa, hqb, hTa, hTb =>
            obtain ⟨ra, ca, e1, e2, e3, e4, -, -, eR⟩ := hmr
            obtain ⟨rb, cb, e1', e2', e3', e4', -, -, eR'⟩ := hmr'
            rw [show (nI a).toInt.toNat = a from nn_I (by omega)] at eR
            rw [show (nI b).toInt.toNat = b from nn_I (by omega)] at eR'
            subst e1 e1'
            have hm40 := e2.2.2.2.2.1
            have hm40' := e2'.2.2.2.2.1
            have so := e2.2.2.2.2.2.1
            have so' := e2'.2.2.2.2.2.1
            dsimp only
            by_cases hsort : sort = sort'
            · rw [if_pos hsort]
              have H1 := t_hasSpan (d := d + 9) (x := i) (y := n) e2
              have H2 := t_hasSpan (d := d + 9) (x := j) (y := n) e2'
              have ent3 : ∀ {o : Option Value} {h' : PH}, RetT (some .int) o → J mX7_copy (d + 10) 109 [some (.ref x), some (.int (nI a)), some (.int (nI b)), some (.int i), some (.int j), some (.int n), some (.ref ra), some (qv (some rb))] [] h o h' → JMt mX7_copy (some .int) (d + 10) [.ref x, .int (nI a), .int (nI b), .int i, .int j, .int n] h o h' := fun rt kk =>
                ent2 rt (fun z => by cases z) (fun y z => k_X7_copy_65 (fun z => by cases z) (fun y z => by
                  cases z
                  exact k_X7_copy_70 e2.1 e2'.1 (fun _ => k_X7_copy_91 (fun z => by cases z) (fun y z => k_X7_copy_96 (fun z => by cases z) (fun y z => kk))) (fun z => absurd (by rw [e2.2.1, e2'.2.1, hsort]) z)))
              by_cases hc1 : 0 ≤ i.toInt ∧ 0 ≤ n.toInt ∧ i.toInt + n.toInt ≤ m
              · rw [if_pos ((spanI hm40).mpr hc1)] at H1
                by_cases hc2 : 0 ≤ j.toInt ∧ 0 ≤ n.toInt ∧ j.toInt + n.toInt ≤ m'
                · rw [if_pos ((spanI hm40').mpr hc2)] at H2
                  rw [if_pos (by omega)]
                  obtain ⟨n, hn1, rfl⟩ := inr (x := n) (n := 41) (by rw [lt0I]; omega) (by omega)
                  obtain ⟨i, hi1, rfl⟩ := inr (x := i) (n := 41) (by rw [lt0I]; omega) (by omega)
                  obtain ⟨j, hj1, rfl⟩ := inr (x := j) (n := 41) (by rw [lt0I]; omega) (by omega)
                  rw [nI_toInt (by omega), nI_toInt (by omega)] at hc1 hc2
                  rw [nn_I (by omega), nn_I (by omega), nn_I (by omega)]
                  have fin := k_X7_copy_140 (d := d + 9) (a0 := x) (a1 := nI a) (a2 := nI b) (a3 := nI i) (a4 := nI j) (a5 := nI n) e2.1 e2.2.2.1 e2'.1 e2'.2.2.1 e2.2.2.2.1 e2'.2.2.2.1 (nI_lt0 (by omega)) (nI_lt0 (by omega)) (nI_lt0 (by omega)) (by rw [nI_clamp (by omega), nI_clamp (by omega)]; omega) (by rw [nI_clamp (by omega), nI_clamp (by omega)]; omega)
                  rw [nI_clamp (by omega), nI_clamp (by omega), nI_clamp (by omega)] at fin
                  have cg : Chg (fun y => y = cb) h (cpyL h ca cb i j n) := Chg.cpyL rfl
                  have rqa := row_out hqa rfl
                  have rqb := row_out hqb rfl
                  rw [eR] at rqa
                  rw [eR'] at rqb
                  refine ⟨_, O, ent3 ⟨.int, rfl, rfl⟩ (k_X7_copy_109 H1 (Or.inl rfl) e2.1 (fun z => absurd z (by decide)) (fun _ => k_X7_copy_120 H2 (Or.inl rfl) e2'.1 (fun _ => fin) (fun z => absurd z (by decide)))), cg.mono (fun y hy => by rw [hy]; exact e4'.2), fun y _ => Iff.rfl, ⟨Nat.le_add_right _ _, Nat.le_add_right _ _⟩, okT_upd hT (fun y z => by cases z), δ, L, R, ?_⟩
                  refine XC.shelf hC0 cg (fun y hy hj => by unfold inX at hj; omega) (fun t ht => ?_) (fun t w ht hu htu h1 h2 => ?_) x13
                  · by_cases e : t = b
                    · subst e
                      show shfS _ x O t (R t) (if t = t then _ else T.2.2.1 t)
                      rw [if_pos rfl]
                      obtain ⟨q1, q2, q3, q4, q5⟩ := hqb
                      rw [eR'] at q1
                      rw [eR']
                      obtain ⟨s1, s2, s3, s4, s5, s6, s7⟩ := e2'
                      refine ⟨q1, q2, ⟨s1, s2, s3, s4, s5, s6, fun y hy => ?_⟩, e3', e4'⟩
                      rw [hL_cpyL]
                      unfold cpyV
                      by_cases y' : j ≤ y ∧ y < j + n
                      · rw [if_pos ⟨rfl, y'⟩, if_pos y']
                        exact e2.2.2.2.2.2.2 _ (by omega)
                      · rw [if_neg (fun w => y' w.2), if_neg y']; exact s7 y hy
                    · show shfS _ x O t (R t) (if t = b then _ else T.2.2.1 t)
                      rw [if_neg e]
                      refine (x11 t ht).oth cg rfl rfl (fun hr => ?_) (fun y hy => hy)
                      have hro := row_out (x11 t ht) hr
                      have hd := x12 t b ht (by omega) e hr (by rw [hTb]; rfl)
                      rw [eR'] at hd
                      refine ⟨fun y => ?_, hd⟩
                      have h1 := hro.2.2.2.2.1
                      have h2 := e2'.2.2.2.1
                      rw [y, h2] at h1
                      cases h1
                  · have h1 : isRowB (if t = b then _ else T.2.2.1 t) = true := h1
                    have h2 : isRowB (if w = b then _ else T.2.2.1 w) = true := h2
                    refine x12 t w ht hu htu ?_ ?_
                    · by_cases e : t = b
                      · rw [e, hTb]; rfl
                      · rw [if_neg e] at h1; exact h1
                    · by_cases e : w = b
                      · rw [e, hTb]; rfl
                      · rw [if_neg e] at h2; exact h2
                · rw [if_neg (fun y => hc2 ((spanI hm40').mp y))] at H2
                  rw [if_neg (fun y => hc2 (by omega))]
                  exact CU.cm hX0 (cuR (k := 0) (by omega) hX0 (fun h1 r1 e1 => ent3 ⟨.int, rfl, rfl⟩ (k_X7_copy_109 H1 (Or.inl rfl) e2.1 (fun z => absurd z (by decide)) (fun _ => k_X7_copy_120 H2 (Or.inl rfl) e2'.1 (fun z => absurd rfl z) (fun _ => k_X7_copy_132 r1 (Or.inl e1) g)))))
              · rw [if_neg (fun y => hc1 ((spanI hm40).mp y))] at H1
                rw [if_neg (fun y => hc1 (by omega))]
                exact CU.cm hX0 (cuR (k := 0) (by omega) hX0 (fun h1 r1 e1 => ent3 ⟨.int, rfl, rfl⟩ (k_X7_copy_109 H1 (Or.inl rfl) e2.1 (fun _ => k_X7_copy_132 r1 (Or.inl e1) g) (fun z => absurd rfl z))))
            · rw [if_neg hsort]
              exact CU.cm hX0 (cuR (k := 1) (by omega) hX0 (fun h1 r1 e1 => ent2 ⟨.int, rfl, rfl⟩ (fun z => by cases z) (fun y z => k_X7_copy_65 (fun z => by cases z) (fun y z => by
                cases z
                exact k_X7_copy_70 e2.1 e2'.1 (fun z => absurd z (by rw [e2.2.1, e2'.2.1, nI_eq (by omega) (by omega)]; exact hsort)) (fun _ => k_X7_copy_83 r1 (Or.inl e1) g)))))
/-! back, status -/
def bckF (n : Nat) (q : Shf) : Shf := match q with
  | some (.inl p) => if p < n then some (.inl p) else none
  | q => q
theorem isRow_bck {n : Nat} {q : Shf} : isRowB (bckF n q) = isRowB q := by
  match q with
  | none => rfl
  | some (.inl p) => show isRowB (if p < n then some (.inl p) else none) = false; split <;> rfl
  | some (.inr r) => rfl
theorem l_back : ∀ m j (h : PH) (F : Nat → Shf), 8 - j = m → j ≤ 8 → (∀ s, s < 8 → ∀ p, F s = some (.inl p) → p < 2 ^ 30) → XC h x O (T.1, T.2.1, F, T.2.2.2) δ L R →
    ∃ h1, J mX7_back (d + 10) 28 [some (.ref x), some (.int (nI j))] [] h (some (.int 1)) h1 ∧ Upd (fun i => i = x + 30) h h1 ∧ XC h1 x O (T.1, T.2.1, (fun s => if j ≤ s ∧ s < 8 then bckF T.1.1.length (F s) else F s), T.2.2.2) δ L R := by
  intro m
  induction m with
  | zero =>
    intro j h F hj hl hF hC
    obtain ⟨x1, x2, x3, -⟩ := id hC
    obtain ⟨y0, y1, y2, y3, y4, y5, y6, y7, y8, y9, y10, y11, y12, y13⟩ := x1
    have e : (fun s => if j ≤ s ∧ s < 8 then bckF T.1.1.length (F s) else F s) = F := by funext s; rw [if_neg (by omega)]
    rw [e]
    exact ⟨h, k_X7_back_28 y0 y9 y12 (fun _ => k_X7_back_69) (fun z => absurd (nI_le (a := 8) (by omega) (by omega)) z), Upd.rf, hC⟩
  | succ m ih =>
    intro j h F hj hl hF hC
    obtain ⟨x1, x2, x3, x4, x5, x6, x7, x8, x9, x10, x11, x12, x13⟩ := id hC
    obtain ⟨y0, y1, y2, y3, y4, y5, y6, y7, y8, y9, y10, y11, y12, y13⟩ := x1
    have C := x3.2.2.2.1
    have n8 := C.2.2.2.2.1
    have hjl : j < 8 := by omega
    have hq := x11 j hjl
    have hH := t_hasB (d := d + 9) (v := hI h (x + 30) j) C
    have ent : ∀ {o : Option Value} {h' : PH}, (¬ bI (hasB T.1.1.length (hI h (x + 30) j)) = 0 → J mX7_back (d + 10) 63 [some (.ref x), some (.int (nI j))] [] h o h') → (bI (hasB T.1.1.length (hI h (x + 30) j)) = 0 → J mX7_back (d + 10) 56 [some (.ref x), some (.int (nI j))] [] h o h') → J mX7_back (d + 10) 28 [some (.ref x), some (.int (nI j))] [] h o h' := fun k1 k2 =>
      k_X7_back_28 y0 y9 y12 (fun z => absurd z (nI_ge (b := 8) hjl (by omega))) (fun _ => k_X7_back_37 y0 y1 x3.1 x3.2.1 y9 y12 (vp_in_nI hjl (by omega)) (by rw [nI_clamp (by omega)]; exact hH) (Or.inl rfl) C.1 k1 k2)
    -- the shelf j as it will be
    have step : ∀ (h2 : PH), Upd (fun i => i = x + 30) h h2 → (∀ t, t ≠ j → hI h2 (x + 30) t = hI h (x + 30) t) → shfS h2 x O j (R j) (bckF T.1.1.length (F j)) → XC h2 x O (T.1, T.2.1, (fun s => if s = j then bckF T.1.1.length (F j) else F s), T.2.2.2) δ L R := by
      intro h2 hU ht hsj
      refine XC.shelf (T := (T.1, T.2.1, F, T.2.2.2)) hC hU.chg (fun i y _ => Or.inr y) (fun s hs => ?_) (fun s t hs ht' hst h1 h2' => ?_) x13
      · show shfS h2 x O s (R s) (if s = j then bckF T.1.1.length (F j) else F s)
        by_cases e : s = j
        · rw [if_pos e, e]; exact hsj
        · rw [if_neg e]
          exact (x11 s hs).keep hU (fun i y => by unfold inX; omega) (ht s e)
      · have r1 : ∀ s, isRowB (if s = j then bckF T.1.1.length (F j) else F s) = isRowB (F s) := fun s => by
          by_cases e : s = j
          · rw [if_pos e, isRow_bck, e]
          · rw [if_neg e]
        have h1 : isRowB (if s = j then bckF T.1.1.length (F j) else F s) = true := h1
        have h2' : isRowB (if t = j then bckF T.1.1.length (F j) else F t) = true := h2'
        rw [r1] at h1 h2'
        exact x12 s t hs ht' hst h1 h2'
    have fin : ∀ (h2 : PH), Upd (fun i => i = x + 30) h h2 → (∀ t, t ≠ j → hI h2 (x + 30) t = hI h (x + 30) t) → shfS h2 x O j (R j) (bckF T.1.1.length (F j)) → ∃ h1, J mX7_back (d + 10) 63 [some (.ref x), some (.int (nI j))] [] h2 (some (.int 1)) h1 ∧ Upd (fun i => i = x + 30) h h1 ∧ XC h1 x O (T.1, T.2.1, (fun s => if j ≤ s ∧ s < 8 then bckF T.1.1.length (F s) else F s), T.2.2.2) δ L R := by
      intro h2 hU ht hsj
      obtain ⟨h1, i1, i2, i3⟩ := ih (j + 1) h2 (fun s => if s = j then bckF T.1.1.length (F j) else F s) (by omega) (by omega) (fun s hs p hp => by
        have hp : (if s = j then bckF T.1.1.length (F j) else F s) = some (.inl p) := hp
        by_cases e : s = j
        · rw [if_pos e] at hp
          have hFj := hF j hjl
          generalize F j = q at hp hFj
          match q, hp, hFj with
          | some (.inl p'), hp, hFj =>
            have hp : (if p' < T.1.1.length then some (.inl p') else none) = some (Sum.inl p) := hp
            split at hp
            · cases hp; exact hFj p rfl
            · cases hp
        · rw [if_neg e] at hp; exact hF s hs p hp) (step h2 hU ht hsj)
      refine ⟨h1, k_X7_back_63 (by rw [nI_1]; exact i1), hU.tr i2, ?_⟩
      have e : (fun s => if j + 1 ≤ s ∧ s < 8 then bckF T.1.1.length (if s = j then bckF T.1.1.length (F j) else F s) else (if s = j then bckF T.1.1.length (F j) else F s)) = (fun s => if j ≤ s ∧ s < 8 then bckF T.1.1.length (F s) else F s) := by
        funext s
        by_cases e1 : s = j
        · rw [if_neg (by omega), if_pos e1, if_pos (by omega), e1]
        · rw [if_neg e1]
          by_cases e2 : j + 1 ≤ s ∧ s < 8
          · rw [if_pos e2, if_pos (by omega)]
          · rw [if_neg e2, if_neg (by omega)]
      rw [← e]
      exact i3
    by_cases hb : hasB T.1.1.length (hI h (x + 30) j) = true
    · obtain ⟨h1, i1, i2⟩ := fin h Upd.rf (fun t _ => rfl) (by
        have hFj := hF j hjl
        show shfS h x O j (R j) (bckF T.1.1.length (F j))
        have hq : shfS h x O j (R j) (F j) := hq
        generalize F j = q at hq hFj
        match q, hq, hFj with
        | none, hq, _ => exact hq
        | some (.inl p), hq, hFj =>
          have hpl := hFj p rfl
          rw [hq.2] at hb
          have := of_decide_eq_true hb
          rw [nI_toInt (by omega)] at this
          show shfS h x O j (R j) (if p < T.1.1.length then some (.inl p) else none)
          rw [if_pos (by omega)]
          exact hq
        | some (.inr r), hq, _ => exact hq)
      exact ⟨h1, ent (fun _ => i1) (fun z => absurd z (by rw [hb]; decide)), i2⟩
    · have hU : Upd (fun i => i = x + 30) h (setI h (x + 30) j (-1)) := Upd.set rfl
      obtain ⟨h1, i1, i2⟩ := fin (setI h (x + 30) j (-1)) hU (fun t ht => by rw [hI_setI, if_neg (fun z => ht z.2)]) (by
        have hFj := hF j hjl
        have hq : shfS h x O j (R j) (F j) := hq
        have e30 : hI (setI h (x + 30) j (-1)) (x + 30) j = -1 := by rw [hI_setI, if_pos ⟨rfl, rfl⟩]
        generalize F j = q at hq hFj
        match q, hq, hFj with
        | none, hq, _ => exact ⟨hq.1, e30⟩
        | some (.inl p), hq, hFj =>
          have hpl := hFj p rfl
          rw [hq.2] at hb
          show shfS _ x O j (R j) (if p < T.1.1.length then some (.inl p) else none)
          rw [if_neg (fun z => hb (hasB_t rfl z (Nat.lt_of_le_of_lt n8 (by omega))))]
          exact ⟨hq.1, e30⟩
        | some (.inr (sort, n, v)), ⟨q1, q2, q3, q4, q5⟩, _ => exact ⟨q1, e30, q3.chg hU.chg (by omega) (by omega), q4, q5⟩)
      have k56 := k_X7_back_56 (d := d + 10) (a1 := nI j) (o := some (.int 1)) (h' := h1) y0 y9 y12 (vp_in_nI hjl (by omega))
      rw [nI_clamp (by omega)] at k56
      exact ⟨h1, ent (fun z => absurd (by rw [Bool.not_eq_true] at hb; rw [hb]; rfl) z) (fun _ => k56 i1), i2⟩
theorem c_back (hX : XS h x O T) : CU mX7_back (d + 10) [.ref x] h x O (s_back T).1 (s_back T).2 := by
  have hX0 := hX
  obtain ⟨hT, δ, L, R, hC⟩ := hX
  have hC0 := hC
  obtain ⟨x1, x2, x3, x4, x5, x6, x7, x8, x9, x10, x11, x12, x13⟩ := hC
  obtain ⟨o1, o2, o3, o4, o5, o6⟩ := hT.1
  have g := x1.1
  have f0 := x1.2.1
  have f3 := x1.2.2.2.2.1
  have W1 := x3.1
  have Wc := x3.2.1
  have Wp := x3.2.2.1
  have C := x3.2.2.2.1
  have Pl := x3.2.2.2.2.1
  have hw := x3.2.2.2.2.2.1
  have hm := x3.2.2.2.2.2.2.1
  have n8 := C.2.2.2.2.1
  have ok := C.2.2.2.2.2.2
  have cn := C.2.2.2.1
  have l8 := Pl.2.2.2.2.2.1
  have sz := Pl.2.2.2.2.1
  unfold s_back
  cases hk : T.2.1.1 with
  | false =>
    rw [hk] at x2
    rw [if_neg (by decide)]
    exact cuR (k := 3) (by omega) hX0 (fun h1 r e => jm mi_X7_back (Nat.le_of_ble_eq_true rfl) ⟨.int, rfl, rfl⟩ rfl (k_X7_back_0 g (fun z => absurd (by rw [x2]; rfl) z) (fun _ => k_X7_back_7 r (Or.inl e) g)))
  | true =>
    rw [hk] at x2
    rw [if_pos rfl]
    obtain ⟨h1, a1, a2, a3⟩ := t_worldTake (d := d + 7) x3 x4 (by omega)
    have c1 := hC0.wor a2 a3
    obtain ⟨h2, b1, b2, b3⟩ := l_back (T := (T.2.1.2, T.2)) (d := d) _ 0 h1 T.2.2.1 rfl (Nat.zero_le _) (fun s hs p hp => by have := hT.2.2 s hs p hp; omega) c1
    have ef : (fun s => if 0 ≤ s ∧ s < 8 then bckF T.2.1.2.1.length (T.2.2.1 s) else T.2.2.1 s) = (fun s => if s < 8 then bckF T.2.1.2.1.length (T.2.2.1 s) else T.2.2.1 s) := by
      funext s
      by_cases e : s < 8
      · rw [if_pos ⟨Nat.zero_le _, e⟩, if_pos e]
      · rw [if_neg (fun z => e z.2), if_neg e]
    refine ⟨h2, jm mi_X7_back (Nat.le_of_ble_eq_true rfl) ⟨.int, rfl, rfl⟩ rfl (k_X7_back_0 g (fun _ => k_X7_back_15 g f0 x1.2.2.1 a1 (Or.inl a2.1) W1 b1) (fun z => absurd z (by rw [x2]; decide))), (a2.mono (fun i y => inWX y)).tr (b2.mono (fun i y => by unfold inX; omega)), ⟨hT.2.1, hT.2.1, fun s hs p hp => ?_⟩, δ, L, R, ?_⟩
    · have hp : bckF T.2.1.2.1.length (T.2.2.1 s) = some (.inl p) := hp
      generalize T.2.2.1 s = q at hp
      match q, hp with
      | some (.inl p'), hp =>
        have hp : (if p' < T.2.1.2.1.length then some (.inl p') else none) = some (Sum.inl p) := hp
        split at hp
        · rename_i hl; cases hp; exact hl
        · cases hp
    · obtain ⟨z1, z2, z3, z4, z5, z6, z7, z8, z9, z10, z11, z12, z13⟩ := b3
      have e8 : ∀ s, s < 8 → (if 0 ≤ s ∧ s < 8 then bckF T.2.1.2.1.length (T.2.2.1 s) else T.2.2.1 s) = bckF T.2.1.2.1.length (T.2.2.1 s) := fun s hs => if_pos ⟨Nat.zero_le _, hs⟩
      refine ⟨z1, by rw [hk] at z2 ⊢; exact z2, z3, z4, z5, z6, z7, z8, z9, z10, fun s hs => ?_, fun s t hs ht hst h1 h2 => ?_, z13⟩
      · have this : shfS h2 x O s (R s) (if 0 ≤ s ∧ s < 8 then bckF T.2.1.2.1.length (T.2.2.1 s) else T.2.2.1 s) := z11 s hs
        rw [e8 s hs] at this
        exact this
      · refine z12 s t hs ht hst ?_ ?_
        · show isRowB (if 0 ≤ s ∧ s < 8 then _ else _) = true
          rw [e8 s hs]; exact h1
        · show isRowB (if 0 ≤ t ∧ t < 8 then _ else _) = true
          rw [e8 t ht]; exact h2
theorem l_full (hX : XS h x O T) : ∀ m j, 8 - j = m → j ≤ 8 → J mX7_fullShelves (d + 9) 4 [some (.ref x), some (.int (nI (sumN (fun s => if (T.2.2.1 s).isSome then 1 else 0) j))), some (.int (nI j))] [] h (some (.int (nI (sumN (fun s => if (T.2.2.1 s).isSome then 1 else 0) 8)))) h := by
  have hX0 := hX
  obtain ⟨hT, δ, L, R, hC⟩ := hX
  have hC0 := hC
  obtain ⟨x1, x2, x3, x4, x5, x6, x7, x8, x9, x10, x11, x12, x13⟩ := hC
  obtain ⟨o1, o2, o3, o4, o5, o6⟩ := hT.1
  have g := x1.1
  have f0 := x1.2.1
  have f3 := x1.2.2.2.2.1
  have W1 := x3.1
  have Wc := x3.2.1
  have Wp := x3.2.2.1
  have C := x3.2.2.2.1
  have Pl := x3.2.2.2.2.1
  have hw := x3.2.2.2.2.2.1
  have hm := x3.2.2.2.2.2.2.1
  have n8 := C.2.2.2.2.1
  have ok := C.2.2.2.2.2.2
  have cn := C.2.2.2.1
  have l8 := Pl.2.2.2.2.2.1
  have sz := Pl.2.2.2.2.1
  intro m
  induction m with
  | zero =>
    intro j hj hl
    have e : j = 8 := by omega
    subst e
    exact k_X7_fullShelves_4 (fun _ => k_X7_fullShelves_35) (fun z => absurd (Int32.le_refl _) z)
  | succ m ih =>
    intro j hj hl
    have hjl : j < 8 := by omega
    have nx := ih (j + 1) (by omega) (by omega)
    rw [sumN] at nx
    have hS := t_isShown (d := d + 7) (s := nI j) hT hC0
    obtain ⟨r, hr, hmr⟩ := t_rowOn (d := d + 8) (s := nI j) hC0
    rw [shfA_in hjl] at hS hmr
    have no : (T.2.2.1 j).isSome = false → J mX7_fullShelves (d + 9) 29 [some (.ref x), some (.int (nI (sumN (fun s => if (T.2.2.1 s).isSome then 1 else 0) j))), some (.int (nI j))] [] h (some (.int (nI (sumN (fun s => if (T.2.2.1 s).isSome then 1 else 0) 8)))) h := fun e => by
      rw [e, if_neg (by decide), Nat.add_zero] at nx
      refine k_X7_fullShelves_29 ?_
      rw [nI_1]; exact nx
    have ye : (T.2.2.1 j).isSome = true → J mX7_fullShelves (d + 9) 26 [some (.ref x), some (.int (nI (sumN (fun s => if (T.2.2.1 s).isSome then 1 else 0) j))), some (.int (nI j))] [] h (some (.int (nI (sumN (fun s => if (T.2.2.1 s).isSome then 1 else 0) 8)))) h := fun e => by
      rw [e, if_pos rfl] at nx
      refine k_X7_fullShelves_26 (k_X7_fullShelves_29 ?_)
      rw [nI_1, nI_1]; exact nx
    refine k_X7_fullShelves_4 (fun z => absurd z (nI_ge (b := 8) hjl (by omega))) (fun _ => ?_)
    generalize T.2.2.1 j = q at hS hmr no ye
    match q, hS, hmr, no, ye with
    | none, hS, hmr, no, ye => exact k_X7_fullShelves_10 hS (Or.inl rfl) g (fun z => absurd rfl z) (fun _ => k_X7_fullShelves_18 hr (Or.inl rfl) g (fun _ => no rfl) (fun i z => by rw [hmr] at z; cases z))
    | some (.inl p), hS, hmr, no, ye => exact k_X7_fullShelves_10 hS (Or.inl rfl) g (fun _ => ye rfl) (fun z => absurd z (bI_n0.mpr rfl))
    | some (.inr (sort, n, v)), hS, hmr, no, ye =>
      obtain ⟨q, c, e1, -⟩ := hmr
      exact k_X7_fullShelves_10 hS (Or.inl rfl) g (fun z => absurd rfl z) (fun _ => k_X7_fullShelves_18 hr (Or.inl rfl) g (fun z => by rw [e1] at z; cases z) (fun i z => ye rfl))
theorem c_status {w : Int32} (hX : XS h x O T) : JMt mX7_status (some .int) (d + 10) [.ref x, .int w] h (some (.int (a_status T w))) h := by
  have hX0 := hX
  obtain ⟨hT, δ, L, R, hC⟩ := hX
  have hC0 := hC
  obtain ⟨x1, x2, x3, x4, x5, x6, x7, x8, x9, x10, x11, x12, x13⟩ := hC
  obtain ⟨o1, o2, o3, o4, o5, o6⟩ := hT.1
  have g := x1.1
  have f0 := x1.2.1
  have f3 := x1.2.2.2.2.1
  have W1 := x3.1
  have Wc := x3.2.1
  have Wp := x3.2.2.1
  have C := x3.2.2.2.1
  have Pl := x3.2.2.2.2.1
  have hw := x3.2.2.2.2.2.1
  have hm := x3.2.2.2.2.2.2.1
  have n8 := C.2.2.2.2.1
  have ok := C.2.2.2.2.2.2
  have cn := C.2.2.2.1
  have l8 := Pl.2.2.2.2.2.1
  have sz := Pl.2.2.2.2.1
  unfold a_status
  have f5 := x1.2.2.2.2.2.2.1
  have f9 := x1.2.2.2.2.2.2.2.2.2.2.1
  have g31 := x1.2.2.2.2.2.2.2.2.2.2.2.2.2
  cases hb : inB w 0 8 with
  | true =>
    rw [if_pos rfl]
    obtain ⟨w, hw8, rfl⟩ := inB_nI (n := 8) (by omega) hb
    rw [nn_I (by omega)]
    have ww : (nI w).toInt = w := nI_toInt (by omega)
    have ne : ∀ (j : Nat) {P : Prop}, j ≤ 8 → w ≠ j → nI w = nI j → P := fun j P hj h e => absurd ((nI_eq (by omega) (by omega)).mp e) h
    have : w = 0 ∨ w = 1 ∨ w = 2 ∨ w = 3 ∨ w = 4 ∨ w = 5 ∨ w = 6 ∨ w = 7 ∨ w = 8 := by omega
    have go : ∀ {v : Int32}, (w = 0 → J mX7_status (d + 10) 52 [some (.ref x), some (.int (nI w))] [] h (some (.int v)) h) → (w = 1 → J mX7_status (d + 10) 63 [some (.ref x), some (.int (nI w))] [] h (some (.int v)) h) → (w = 2 → J mX7_status (d + 10) 74 [some (.ref x), some (.int (nI w))] [] h (some (.int v)) h) → (w = 3 → J mX7_status (d + 10) 82 [some (.ref x), some (.int (nI w))] [] h (some (.int v)) h) → (w = 4 → J mX7_status (d + 10) 90 [some (.ref x), some (.int (nI w))] [] h (some (.int v)) h) → (w = 5 → J mX7_status (d + 10) 98 [some (.ref x), some (.int (nI w))] [] h (some (.int v)) h) → (w = 6 → J mX7_status (d + 10) 106 [some (.ref x), some (.int (nI w))] [] h (some (.int v)) h) → (w = 7 → J mX7_status (d + 10) 114 [some (.ref x), some (.int (nI w))] [] h (some (.int v)) h) → (w = 8 → J mX7_status (d + 10) 122 [some (.ref x), some (.int (nI w))] [] h (some (.int v)) h) → JMt mX7_status (some .int) (d + 10) [.ref x, .int (nI w)] h (some (.int v)) h := fun k0 k1 k2 k3 k4 k5 k6 k7 k8 =>
      jm mi_X7_status (Nat.le_of_ble_eq_true rfl) ⟨.int, rfl, rfl⟩ rfl (k_X7_status_0 (fun z => absurd z (by omega)) (fun z => k0 ((nI_eq (b := 0) (by omega) (by omega)).mp z)) (fun z => k1 ((nI_eq (b := 1) (by omega) (by omega)).mp z)) (fun z => k2 ((nI_eq (b := 2) (by omega) (by omega)).mp z)) (fun z => k3 ((nI_eq (b := 3) (by omega) (by omega)).mp z)) (fun z => k4 ((nI_eq (b := 4) (by omega) (by omega)).mp z)) (fun z => k5 ((nI_eq (b := 5) (by omega) (by omega)).mp z)) (fun z => k6 ((nI_eq (b := 6) (by omega) (by omega)).mp z)) (fun z => k7 ((nI_eq (b := 7) (by omega) (by omega)).mp z)) (fun z => k8 ((nI_eq (b := 8) (by omega) (by omega)).mp z)))
    have ab : ∀ {a b : Nat} {P : Prop}, a ≠ b → a = b → P := fun h e => absurd e h
    refine go (fun e => ?_) (fun e => ?_) (fun e => ?_) (fun e => ?_) (fun e => ?_) (fun e => ?_) (fun e => ?_) (fun e => ?_) (fun e => ?_)
    all_goals subst e
    · have := k_X7_status_52 (d := d + 10) (a1 := nI 0) g f0 W1 Wc C.1
      rw [cn] at this
      exact this
    · have := k_X7_status_63 (d := d + 10) (a1 := nI 1) g f0 W1 Wp Pl.1
      rw [sz] at this
      exact this
    · have := k_X7_status_74 (d := d + 10) (a1 := nI 2) g f0 W1
      rw [hw] at this
      exact this
    · have := k_X7_status_82 (d := d + 10) (a1 := nI 3) g f0 W1
      rw [hm] at this
      exact this
    · have := k_X7_status_90 (d := d + 10) (a1 := nI 4) g f0 W1
      rw [x3.2.2.2.2.2.2.2.1] at this
      exact this
    · have := k_X7_status_98 (d := d + 10) (a1 := nI 5) g f0 W1
      rw [x3.2.2.2.2.2.2.2.2.1] at this
      exact this
    · have := k_X7_status_106 (d := d + 10) (a1 := nI 6) g f5 x8.1
      rw [x8.2.2.2.1] at this
      exact this
    · have := k_X7_status_114 (d := d + 10) (a1 := nI 7) g f0 W1
      rw [x3.2.2.2.2.2.2.2.2.2] at this
      exact this
    · exact k_X7_status_122 (jm mi_X7_fullShelves (Nat.le_of_ble_eq_true rfl) ⟨.int, rfl, rfl⟩ rfl (k_X7_fullShelves_0 (l_full (d := d) hX0 8 0 rfl (by omega)))) (Or.inl rfl) g
  | false =>
    rw [if_neg (by decide)]
    have hb := of_decide_eq_false hb
    have nw : ∀ (k : Nat) {P : Prop}, k ≤ 8 → w = nI k → P := fun k P hk e => by rw [e, nI_toInt (by omega)] at hb; omega
    have ent : ∀ {v : Int32}, JMt mX7_refusals (some .int) (d + 9) [.ref x, .int w] h (some (.int v)) h → JMt mX7_status (some .int) (d + 10) [.ref x, .int w] h (some (.int v)) h := fun kk =>
      jm mi_X7_status (Nat.le_of_ble_eq_true rfl) ⟨.int, rfl, rfl⟩ rfl (k_X7_status_0 (fun _ => k_X7_status_127 kk (Or.inl rfl) g) (fun z => nw 0 (by omega) z) (fun z => nw 1 (by omega) z) (fun z => nw 2 (by omega) z) (fun z => nw 3 (by omega) z) (fun z => nw 4 (by omega) z) (fun z => nw 5 (by omega) z) (fun z => nw 6 (by omega) z) (fun z => nw 7 (by omega) z) (fun z => nw 8 (by omega) z))
    have no : J mX7_refusals (d + 9) 16 [some (.ref x), some (.int w), none] [] h (some (.int (-1))) h := k_X7_refusals_16 (k_X7_refusals_17 (fun _ => k_X7_refusals_36 k_X7_refusals_37) (fun z => absurd rfl z))
    cases hb2 : inB w 12 16 with
    | false =>
      rw [if_neg (by decide)]
      have hb2 := of_decide_eq_false hb2
      refine ent (jm mi_X7_refusals (Nat.le_of_ble_eq_true rfl) ⟨.int, rfl, rfl⟩ rfl (k_X7_refusals_0 (fun _ => no) (fun z => k_X7_refusals_6 (fun _ => no) (fun z2 => ?_))))
      rw [show (12 : Int32) = nI 12 from rfl, ltLit (by omega)] at z
      rw [show (17 : Int32) = nI 17 from rfl, geLit (by omega)] at z2
      omega
    | true =>
      rw [if_pos rfl]
      have hb2 := of_decide_eq_true hb2
      obtain ⟨w, hw17, rfl⟩ := inr (x := w) (n := 17) (by rw [lt0I]; omega) (by omega)
      rw [nI_toInt (by omega)] at hb2
      rw [nn_I (by omega)]
      have e12 : nI w - (12 : Int32) = nI (w - 12) := by rw [show (12 : Int32) = nI 12 from rfl, pk_sub (by omega)]
      have pk : JMt mX7_pick (some .int) (d + 8) [.ref (x + 31), .int (nI w - (12 : Int32))] h (some (.int (T.2.2.2.2 (w - 12)))) h := by rw [e12, ← x10 (w - 12) (by omega)]; exact t_pick g31 (by omega) (by omega)
      exact ent (jm mi_X7_refusals (Nat.le_of_ble_eq_true rfl) ⟨.int, rfl, rfl⟩ rfl (k_X7_refusals_0 (fun z => absurd z (nI_nlt (b := 12) (by omega) (by omega))) (fun z => k_X7_refusals_6 (fun z => absurd z (nI_ge (b := 17) (by omega) (by omega))) (fun z2 => k_X7_refusals_12 (k_X7_refusals_17 (fun z => absurd z (by decide)) (fun _ => k_X7_refusals_22 g f9 pk (Or.inl rfl) k_X7_refusals_37))))))
end RO
