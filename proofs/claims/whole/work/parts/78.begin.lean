/-! the class's own constructor; the state both begin with -/
def t0S : TS := (z5, (false, z5), fun _ => none, [], fun _ => 0)
theorem ok0 : okT t0S := ⟨⟨fun x hx => absurd hx List.not_mem_nil, List.nodup_nil, Nat.zero_le _, by decide, by decide, by decide⟩, ⟨fun x hx => absurd hx List.not_mem_nil, List.nodup_nil, Nat.zero_le _, by decide, by decide, by decide⟩, fun s hs p hp => by cases hp⟩
section K7
variable {d : Nat} {h : PH} {x : Nat}
theorem va1 {n m : Nat} (l : m < n) : VA n [some (.ref m), none] [.ref m] := vv_l l (vv_n (vv_s l vv_o))
theorem va2 {n m : Nat} (l : m < n) : VA (n + 1) [some (.ref m), none] [.ref n, .ref m] := vv_l (Nat.lt_succ_of_lt l) (vv_n (vv_s (Nat.lt_succ_self n) (vv_s (Nat.lt_succ_of_lt l) vv_o)))
theorem l_init : ∀ n j (h : PH), 8 - j = n → j ≤ 8 → hG h x = (7, 11) → hR h x 8 = some (x + 30) → hG h (x + 30) = (20, 8) → (∀ s, s < j → hI h (x + 30) s = -1) →
    ∃ h1, J mX7_init d 125 [some (.ref x), some (.int (nI j))] [] h none h1 ∧ Upd (fun i => i = x + 30) h h1 ∧ ∀ s, s < 8 → hI h1 (x + 30) s = -1 := by
  intro n
  induction n with
  | zero =>
    intro j h hn hj g f8 g30 hv
    have : j = 8 := by omega
    subst this
    exact ⟨h, k_X7_init_125 g f8 g30 (fun _ => k_X7_init_147) (fun z => absurd (Int32.le_refl _) z), Upd.rf, hv⟩
  | succ n ih =>
    intro j h hn hj g f8 g30 hv
    have hjl : j < 8 := by omega
    have cj : (nI j).toNatClampNeg = j := nI_clamp (by omega)
    have U : Upd (fun i => i = x + 30) h (setI h (x + 30) (nI j).toNatClampNeg (-1)) := Upd.set rfl
    obtain ⟨h1, a1, a2, a3⟩ := ih (j + 1) (setI h (x + 30) (nI j).toNatClampNeg (-1)) (by omega) (by omega) g f8 g30 (fun s hs => by
      rw [cj, hI_setI]
      by_cases e : s = j
      · rw [if_pos ⟨rfl, e⟩]
      · rw [if_neg (fun y => e y.2)]; exact hv s (by omega))
    exact ⟨h1, k_X7_init_125 g f8 g30 (fun z => absurd z (nI_ge (b := 8) hjl (by omega))) (fun _ => k_X7_init_134 g f8 g30 (vp_in_nI (by omega) (by omega)) (by rw [nI_1]; exact a1)), U.tr a2, a3⟩
theorem n_X7 (g : hG h x = (7, 11)) (hl : hn h = x + 1) (z : ∀ k, hI h x k = 0 ∧ hR h x k = none) : ∃ h1, JMt mX7_init none (d + 3) [.ref x] h none h1 ∧ hn h1 = x + 32 ∧ hs h1 = hs h + 3882 ∧ Chg (fun i => i = x) h h1 ∧ XS h1 x (inX x) t0S := by
  have I0 := InvX.start g hl z
  -- three worlds
  obtain ⟨p1, j1, n1, s1, c1, w1⟩ := n_X6 (d := d) (h := newC h 6 (fN 6) (fN 6)) (w := hn h) newG rfl (fun k => ⟨newI, newR⟩)
  have D1 : Chg (fun _ => False) h p1 := n_new rfl c1
  obtain ⟨q1, e1, I1, g1, C1, X1⟩ := I0.step (f := 0) (e := 5) (v := 84) (t := 6) (N := 7) (by omega) (by omega) (by decide) D1 (by omega) (by rw [s1]; show hs h + 7 + 77 = _; omega) w1.1
  have m1 : hn q1 = x + 6 := I1.1
  obtain ⟨p2, j2, n2, s2, c2, w2⟩ := n_X6 (d := d) (h := newC q1 6 (fN 6) (fN 6)) (w := hn q1) newG rfl (fun k => ⟨newI, newR⟩)
  have D2 : Chg (fun _ => False) q1 p2 := n_new rfl c2
  obtain ⟨q2, e2, I2, g2, C2, X2⟩ := I1.step (f := 1) (e := 5) (v := 84) (t := 6) (N := 7) (by omega) (by omega) (by decide) D2 (by omega) (by rw [s2]; show hs q1 + 7 + 77 = _; omega) w2.1
  have m2 : hn q2 = x + 11 := I2.1
  obtain ⟨p3, j3, n3, s3, c3, w3⟩ := n_X6 (d := d) (h := newC q2 6 (fN 6) (fN 6)) (w := hn q2) newG rfl (fun k => ⟨newI, newR⟩)
  have D3 : Chg (fun _ => False) q2 p3 := n_new rfl c3
  obtain ⟨q3, e3, I3, g3, C3, X3⟩ := I2.step (f := 2) (e := 5) (v := 84) (t := 6) (N := 7) (by omega) (by omega) (by decide) D3 (by omega) (by rw [s3]; show hs q2 + 7 + 77 = _; omega) w3.1
  have m3 : hn q3 = x + 16 := I3.1
  rw [hl] at w1
  have W1 : WorldS q3 (x + 1) z5 := w1.chg ((X1.tr C2).tr C3) (fun i hi => by unfold inW at hi; omega)
  -- the tried pile
  have a4 : Chg (fun _ => False) q3 (newC q3 2 (fN 2) (fN 2)) := Chg.newC
  have V4 := W1.chg a4 (fun i _ y => y)
  have f4 : hR (newC q3 2 (fN 2) (fN 2)) x 0 = some (x + 1) := by
    rw [((a4.2.2 x I3.lt).2 (fun y => y)).2.2]; exact (I3.fi 0 rfl).1
  obtain ⟨p4, j4, n4, s4, c4, w4⟩ := n_X2 (d := d + 1) (h := newC q3 2 (fN 2) (fN 2)) (o := hn q3) (c := x + 1 + 1) newG rfl (fun k => ⟨newI, newR⟩) V4.2.2.2.1.1
  have D4 : Chg (fun _ => False) q3 p4 := n_new rfl c4
  obtain ⟨q4, e4, I4, g4, C4, X4⟩ := I3.step (f := 3) (e := 2) (v := 11) (t := 2) (N := 3) (by omega) (by omega) (by decide) D4 (by omega) (by rw [s4]; show hs q3 + 3 + 8 = _; omega) w4.1
  have m4 : hn q4 = x + 18 := I4.1
  have W4 := W1.chg C4 (fun i hi => by unfold inW at hi; omega)
  -- the lineups
  have a5 : Chg (fun _ => False) q4 (newC q4 1 (fN 1) (fN 1)) := Chg.newC
  have V5 := W4.chg a5 (fun i _ y => y)
  have f5 : hR (newC q4 1 (fN 1) (fN 1)) x 0 = some (x + 1) := by
    rw [((a5.2.2 x I4.lt).2 (fun y => y)).2.2]; exact (I4.fi 0 rfl).1
  obtain ⟨p5, j5, n5, s5, c5, w5⟩ := n_X1 (d := d + 1) (h := newC q4 1 (fN 1) (fN 1)) (o := hn q4) (c := x + 1 + 1) newG rfl (fun k => ⟨newI, newR⟩) V5.2.2.2.1.1 (by omega)
  have D5 : Chg (fun _ => False) q4 p5 := n_new rfl c5
  obtain ⟨q5, e5, I5, g5, C5, X5⟩ := I4.step (f := 4) (e := 7) (v := 3336) (t := 1) (N := 8) (by omega) (by omega) (by decide) D5 (by omega) (by rw [s5]; show hs q4 + 8 + 3328 = _; omega) w5.1
  have m5 : hn q5 = x + 25 := I5.1
  -- the tape
  obtain ⟨p6, j6, n6, s6, c6, w6⟩ := n_X5 (d := d + 1) (h := newC q5 5 (fN 5) (fN 5)) (o := hn q5) newG rfl (fun k => ⟨newI, newR⟩)
  have D6 : Chg (fun _ => False) q5 p6 := n_new rfl c6
  obtain ⟨q6, e6, I6, g6, C6, X6⟩ := I5.step (f := 5) (e := 2) (v := 252) (t := 5) (N := 2) (by omega) (by omega) (by decide) D6 (by omega) (by rw [s6]; show hs q5 + 2 + 250 = _; omega) w6.1
  have m6 : hn q6 = x + 27 := I6.1
  rw [m5] at w6
  have W6 : TapeS q6 (x + 25) (x + 26) [] := w6.chg X6 (by omega) (by omega)
  -- the reader
  have a7 : Chg (fun _ => False) q6 (newC q6 3 (fN 3) (fN 3)) := Chg.newC
  have f7 : hR (newC q6 3 (fN 3) (fN 3)) x 5 = some (x + 25) := by
    rw [((a7.2.2 x I6.lt).2 (fun y => y)).2.2]; exact (I6.fi 5 rfl).1
  obtain ⟨p7, j7, n7, s7, c7, w7⟩ := n_X3 (d := d + 1) (h := newC q6 3 (fN 3) (fN 3)) (o := hn q6) (c := x + 25) newG rfl (fun k => ⟨newI, newR⟩) (a7.gg W6.1 (by omega))
  have D7 : Chg (fun _ => False) q6 p7 := n_new rfl c7
  obtain ⟨q7, e7, I7, g7, C7, X7⟩ := I6.step (f := 6) (e := 2) (v := 10) (t := 3) (N := 5) (by omega) (by omega) (by decide) D7 (by omega) (by rw [s7]; show hs q6 + 5 + 5 = _; omega) w7.1
  -- shelves, shown, refusals
  obtain ⟨q8, e8, I8, g8, b8, C8, Z8⟩ := I7.nwC (f := 7) (t := 23) (N := 8) (by omega) (by omega) (by decide)
  obtain ⟨q9, e9, I9, g9, b9, C9, Z9⟩ := I8.nwC (f := 8) (t := 20) (N := 8) (by omega) (by omega) (by decide)
  obtain ⟨qa, ea, Ia, ga, ba, Ca, Za⟩ := I9.nwC (f := 9) (t := 20) (N := 5) (by omega) (by omega) (by decide)
  obtain ⟨h1, k1, k2, k3⟩ := l_init (d := d + 3) (x := x) _ 0 qa rfl (by omega) Ia.g (Ia.fi 8 rfl).1 (Ia.fi 8 rfl).2 (fun s hs => absurd hs (Nat.not_lt_zero s))
  rw [m1] at w2
  rw [m2] at w3
  rw [m3] at w4
  rw [m4] at w5
  rw [m6] at w7
  have kc : Chg (fun i => i = x + 30) qa h1 := k2.chg
  have E9 : Chg (fun i => i = x ∨ i = x + 30) q9 h1 := (Ca.mono (fun i y => Or.inl y)).tr (kc.mono (fun i y => Or.inr y))
  have E8 : Chg (fun i => i = x ∨ i = x + 30) q8 h1 := (C9.mono (fun i y => Or.inl y)).tr E9
  have E7 : Chg (fun i => i = x ∨ i = x + 30) q7 h1 := (C8.mono (fun i y => Or.inl y)).tr E8
  have E6 : Chg (fun i => i = x ∨ i = x + 30) q6 h1 := (C7.mono (fun i y => Or.inl y)).tr E7
  have E5 : Chg (fun i => i = x ∨ i = x + 30) q5 h1 := (C6.mono (fun i y => Or.inl y)).tr E6
  have E4 : Chg (fun i => i = x ∨ i = x + 30) q4 h1 := (C5.mono (fun i y => Or.inl y)).tr E5
  have E3 : Chg (fun i => i = x ∨ i = x + 30) q3 h1 := (C4.mono (fun i y => Or.inl y)).tr E4
  have E2 : Chg (fun i => i = x ∨ i = x + 30) q2 h1 := (C3.mono (fun i y => Or.inl y)).tr E3
  have V1 : WorldS h1 (x + 1) z5 := W1.chg E3 (fun i hi y => by unfold inW at hi; omega)
  have V2 : WorldS h1 (x + 6) z5 := w2.chg ((X2.mono (fun i y => Or.inl y)).tr E2) (fun i hi y => by unfold inW at hi; omega)
  have V3 : WorldS h1 (x + 11) z5 := w3.chg ((X3.mono (fun i y => Or.inl y)).tr E3) (fun i hi y => by unfold inW at hi; omega)
  have V4' : PileS h1 (x + 16) (x + 1 + 1) (x + 17) [] := w4.chg ((X4.mono (fun i y => Or.inl y)).tr E4) (by omega) (by omega)
  have V5' : LinT h1 (x + 18) (x + 1 + 1) := w5.chg ((X5.mono (fun i y => Or.inl y)).tr E5) (fun i h1 h2 y => by omega)
  have V6 : TapeS h1 (x + 25) (x + 26) [] := W6.chg E6 (by omega) (by omega)
  have g27 : hG h1 (x + 27) = (3, 5) ∧ hR h1 (x + 27) 0 = some (x + 25) ∧ hR h1 (x + 27) 1 = some (x + 27 + 1) ∧ hG h1 (x + 27 + 1) = (20, 5) := by
    have E7' := (X7.mono (S' := fun i => i = x ∨ i = x + 30) (fun i y => Or.inl y)).tr E7
    obtain ⟨r1, r2, r3, r4⟩ := w7
    have := (E7'.at r1 (by omega) (by omega)).2.2
    exact ⟨E7'.gg r1 (by omega), by rw [this]; exact r2, by rw [this]; exact r3, E7'.gg r4 (by omega)⟩
  have rx : ∀ k, hR h1 x k = hR qa x k := fun k => by rw [k2.rr]
  have iv := Ia.2.2.2.2.2.2.1
  have m8 : hn q8 = x + 30 := I8.1
  have ma : hn qa = x + 32 := Ia.1
  refine ⟨h1, jm mi_X7_init (Nat.le_of_ble_eq_true rfl) rfl rfl (k_X7_init_0 (va1 I0.lt) rfl j1 (Or.inr (va2 I0.lt)) g1 (show hG p1 (hn h) = (6, 7) by rw [hl]; exact w1.1) (by omega) e1
    (va1 I1.lt) rfl j2 (Or.inr (va2 I1.lt)) g2 (show hG p2 (hn q1) = (6, 7) by rw [m1]; exact w2.1) (by omega) e2
    (va1 I2.lt) rfl j3 (Or.inr (va2 I2.lt)) g3 (show hG p3 (hn q2) = (6, 7) by rw [m2]; exact w3.1) (by omega) e3
    (va1 I3.lt) rfl (a4.gg I3.g (by omega)) f4 V4.1 V4.2.1 j4 (Or.inr (va2 I3.lt)) g4 (show hG p4 (hn q3) = (2, 3) by rw [m3]; exact w4.1) (by omega) e4
    (va1 I4.lt) rfl (a5.gg I4.g (by omega)) f5 V5.1 V5.2.1 j5 (Or.inr (va2 I4.lt)) g5 (show hG p5 (hn q4) = (1, 8) by rw [m4]; exact w5.1) (by omega) e5
    (va1 I5.lt) rfl j6 (Or.inr (va2 I5.lt)) g6 (show hG p6 (hn q5) = (5, 2) by rw [m5]; exact w6.1) (by omega) e6
    (va1 I6.lt) rfl (a7.gg I6.g (by omega)) f7 j7 (Or.inr (va2 I6.lt)) g7 (show hG p7 (hn q6) = (3, 5) by rw [m6]; exact w7.1) (by omega) e7
    (by decide) (by decide) (by omega) (va1 I7.lt) rfl g8 b8 (by omega) e8 (by decide) (by decide) (by omega) (va1 I8.lt) rfl g9 b9 (by omega) e9 (by decide) (by decide) (by omega) (va1 I9.lt) rfl ga ba (by omega) ea k1), ?_, ?_, ?_, ok0, z5, [], fun _ => (0, 0), ⟨by rw [k2.gg]; exact Ia.g, (rx 0).trans (Ia.fi 0 rfl).1, (rx 1).trans (Ia.fi 1 rfl).1, (rx 2).trans (Ia.fi 2 rfl).1, (rx 3).trans (Ia.fi 3 rfl).1, (rx 4).trans (Ia.fi 4 rfl).1, (rx 5).trans (Ia.fi 5 rfl).1, (rx 6).trans (Ia.fi 6 rfl).1, (rx 7).trans (Ia.fi 7 rfl).1, (rx 8).trans (Ia.fi 8 rfl).1, (rx 9).trans (Ia.fi 9 rfl).1, by rw [k2.gg]; exact (Ia.fi 7 rfl).2, by rw [k2.gg]; exact (Ia.fi 8 rfl).2, by rw [k2.gg]; exact (Ia.fi 9 rfl).2⟩, ?_, V1, V2, V3, V4', V5', V6, g27, fun i hi => ?_, fun s hs => ⟨?_, k3 s hs⟩, fun s t hs ht hst h1 => (by cases h1), fun i hi => hi⟩
  · rw [k2.1]; exact ma
  · rw [k2.2.1]; exact Ia.2.1
  · exact Ia.2.2.2.2.2.2.2.tr2 kc (fun i hi y => by omega)
  · rw [(k2.2.2.2.2.2 x (by omega))]
    exact iv 10
  · rw [(k2.2.2.2.2.2 (x + 31) (by omega))]
    exact (Za i).1
  · rw [k2.rr]
    rw [(((C9.tr Ca).2.2 (x + 29) (by omega)).2 (by omega)).2.2]
    exact (Z8 s).2
end K7
section BG
variable {d : Nat} {h : PH} {m : Nat}
theorem n_X8 (g : hG h m = (8, 38)) (hl : hn h = m + 1) (z : ∀ k, hI h m k = 0 ∧ hR h m k = none) : ∃ h1, JMt mX8_init none (d + 1) [.ref m] h none h1 ∧ hn h1 = m + 285 ∧ hs h1 = hs h + 3791 ∧ Chg (fun i => i = m) h h1 ∧ MS h1 m none none t0S := by
  obtain ⟨h1, a1, a2, a3, a4, a5, ⟨a6, a7⟩, a8, a9⟩ := u_init (d := d) g hl z
  have zi : ∀ i, m < i → i < m + 285 → ∀ k, hI h1 i k = 0 := fun i h1 h2 k => (a9 i h1 h2 k).1
  refine ⟨h1, a1, a2, a3, a4, ok0, a5, ⟨⟨(a8 13).trans rfl, Nat.zero_le _, fun q hq => absurd hq List.not_mem_nil, fun p hp => absurd hp (Nat.not_lt_zero p)⟩, ⟨(a8 20).trans rfl, Nat.zero_le _, fun k hk => absurd hk (Nat.not_lt_zero k)⟩, (a8 9).trans rfl, (a8 10).trans rfl, (a8 11).trans rfl, (a8 12).trans rfl, (a8 21).trans rfl, by decide, by decide, by decide⟩, ⟨(a8 7).trans rfl, Nat.zero_le _, fun b hb => absurd hb List.not_mem_nil, fun k hk => absurd hk (Nat.not_lt_zero k)⟩, fun i hi => zi _ (by omega) (by omega) _, fun s hs => zi _ (by omega) (by omega) _, ⟨a6, rfl⟩, a7⟩
/-- what others do leaves the class's object as it is -/
theorem XS.chg {S : Nat → Prop} {h1 : PH} {x : Nat} {O : Nat → Prop} {T : TS} (hX : XS h x O T) (a : Chg S h h1) (hS : ∀ i, O i → ¬ S i) : XS h1 x O T := by
  obtain ⟨hT, δ, L, R, x1, x2, x3, x4, x5, x6, x7, x8, x9, x10, x11, x12, x13⟩ := hX
  have no : ∀ i, x ≤ i → i < x + 32 → ¬ S i := fun i h1 h2 => hS i (x13 i ⟨h1, h2⟩)
  obtain ⟨y0, y1, y2, y3, y4, y5, y6, y7, y8, y9, y10, y11, y12, y13⟩ := x1
  obtain ⟨e1, e2, e3⟩ := a.at y0 (by omega) (no x (by omega) (by omega))
  have e29 := (a.at y11 (by omega) (no _ (by omega) (by omega))).2.2
  have e30 := (a.at y12 (by omega) (no _ (by omega) (by omega))).1
  have e31 := (a.at y13 (by omega) (no _ (by omega) (by omega))).1
  have nW : ∀ w, x ≤ w → w + 5 ≤ x + 32 → ∀ i, inW w i → ¬ S i := fun w h1 h2 i hi => no i (by unfold inW at hi; omega) (by unfold inW at hi; omega)
  refine ⟨hT, δ, L, R, ⟨a.gg y0 (by omega), by rw [e3]; exact y1, by rw [e3]; exact y2, by rw [e3]; exact y3, by rw [e3]; exact y4, by rw [e3]; exact y5, by rw [e3]; exact y6, by rw [e3]; exact y7, by rw [e3]; exact y8, by rw [e3]; exact y9, by rw [e3]; exact y10, a.gg y11 (by omega), a.gg y12 (by omega), a.gg y13 (by omega)⟩, by rw [e1]; exact x2, x3.chg a (nW _ (by omega) (by omega)), x4.chg a (nW _ (by omega) (by omega)), x5.chg a (nW _ (by omega) (by omega)), x6.chg a (no _ (by omega) (by omega)) (no _ (by omega) (by omega)), x7.chg a (fun i h1 h2 => no i (by omega) (by omega)), x8.chg a (no _ (by omega) (by omega)) (no _ (by omega) (by omega)), ?_, fun i hi => by rw [e31]; exact x10 i hi, fun s hs => ?_, x12, x13⟩
  · obtain ⟨r1, r2, r3, r4⟩ := x9
    have := (a.at r1 (by omega) (no _ (by omega) (by omega))).2.2
    exact ⟨a.gg r1 (by omega), by rw [this]; exact r2, by rw [this]; exact r3, a.gg r4 (by omega)⟩
  · have := x11 s hs
    generalize T.2.2.1 s = q at this
    match q, this with
    | none, ⟨q1, q2⟩ => exact ⟨by rw [e29]; exact q1, by rw [e30]; exact q2⟩
    | some (.inl p), ⟨q1, q2⟩ => exact ⟨by rw [e29]; exact q1, by rw [e30]; exact q2⟩
    | some (.inr (sort, n, v)), ⟨q1, q2, q3, q4, q5⟩ => exact ⟨by rw [e29]; exact q1, by rw [e30]; exact q2, q3.chg a (hS _ q4.2) (hS _ q5.2), q4, q5⟩
end BG
