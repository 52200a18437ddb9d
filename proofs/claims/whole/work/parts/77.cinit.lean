/-! the class's constructors -/
def InvX (h0 h : PH) (m t0 n0 c w : Nat) (L : List (Nat × Nat × Nat × Nat)) (V : Nat → Int32) : Prop := hn h = m + c ∧ hs h = hs h0 + w ∧ 0 < c ∧ hG h m = (t0, n0) ∧ (∀ q ∈ L, hR h m q.1 = some (m + q.2.1) ∧ 0 < q.2.1 ∧ q.2.2.1 < 99 ∧ hG h (m + q.2.1) = (q.2.2.1, q.2.2.2)) ∧ (∀ k, (∀ q ∈ L, q.1 ≠ k) → hR h m k = none) ∧ (∀ k, hI h m k = V k) ∧ Chg (fun i => i = m) h0 h
section IX
variable {h0 h : PH} {m t0 n0 c w : Nat} {L : List (Nat × Nat × Nat × Nat)} {V : Nat → Int32}
theorem InvX.lt (I : InvX h0 h m t0 n0 c w L V) : m < hn h := by rw [I.1]; have := I.2.2.1; omega
theorem InvX.g (I : InvX h0 h m t0 n0 c w L V) : hG h m = (t0, n0) := I.2.2.2.1
theorem InvX.step {h4 : PH} {f t N e v : Nat} (ht0 : t0 < 99) (ht : t < 99) (hf : ∀ q ∈ L, q.1 ≠ f) (I : InvX h0 h m t0 n0 c w L V) (C : Chg (fun _ => False) h h4) (e1 : hn h4 = hn h + e) (e2 : hs h4 = hs h + v) (g : hG h4 (hn h) = (t, N)) : ∃ h', setR h4 m f (some (hn h)) = h' ∧ InvX h0 h' m t0 n0 (c + e) (w + v) (L ++ [(f, c, t, N)]) V ∧ hG h4 m = (t0, n0) ∧ Chg (fun i => i = m) h h' ∧ Chg (fun i => i = m) h4 h' := by
  obtain ⟨i1, i2, i3, i4, i5, i6, i7, i9⟩ := I
  have hm : m < hn h := by omega
  have C4 : Chg (fun i => i = m) h4 (setR h4 m f (some (hn h))) := Chg.setR rfl
  have C2 : Chg (fun i => i = m) h (setR h4 m f (some (hn h))) := (C.mono (fun _ y => y.elim)).tr C4
  have old := (C.2.2 m hm).2 (fun y => y)
  have rm : ∀ k, hR (setR h4 m f (some (hn h))) m k = if k = f then some (hn h) else hR h m k := fun k => by
    rw [hR_setR, old.2.2]
    by_cases e : k = f
    · rw [if_pos ⟨rfl, e⟩, if_pos e]
    · rw [if_neg (fun y => e y.2), if_neg e]
  refine ⟨_, rfl, ⟨by rw [hn_setR, e1, i1]; omega, by rw [hs_setR, e2, i2]; omega, by omega, C2.gg i4 ht0, fun q hq => ?_, fun k hk => ?_, fun k => ?_, i9.tr C2⟩, C.gg i4 ht0, C2, C4⟩
  · rcases List.mem_append.mp hq with y | y
    · obtain ⟨j1, j2, j3, j4⟩ := i5 q y
      exact ⟨by rw [rm, if_neg (hf q y)]; exact j1, j2, j3, C2.gg j4 j3⟩
    · rw [List.mem_singleton.mp y]
      refine ⟨by rw [rm, if_pos rfl, i1], i3, ht, ?_⟩
      show hG (setR h4 m f (some (hn h))) (m + c) = (t, N)
      rw [hG_setR, ← i1]; exact g
  · rw [rm, if_neg (fun y => hk _ (List.mem_append.mpr (Or.inr (List.mem_singleton.mpr rfl))) y.symm)]
    exact i6 k (fun q hq => hk q (List.mem_append.mpr (Or.inl hq)))
  · rw [hI_setR, old.1]; exact i7 k
theorem InvX.nwC {f t N : Nat} (ht0 : t0 < 99) (ht : t < 99) (hf : ∀ q ∈ L, q.1 ≠ f) (I : InvX h0 h m t0 n0 c w L V) : ∃ h', setR (newC h t N N) m f (some (hn h)) = h' ∧ InvX h0 h' m t0 n0 (c + 1) (w + N) (L ++ [(f, c, t, N)]) V ∧ hG (newC h t N N) m = (t0, n0) ∧ hG (newC h t N N) (hn h) = (t, N) ∧ Chg (fun i => i = m) h h' ∧ ∀ k, hI h' (m + c) k = 0 ∧ hR h' (m + c) k = none := by
  obtain ⟨h', a, b, c', e, f'⟩ := I.step (f := f) ht0 ht hf (Chg.newC (t := t) (n := N) (w := N)) (hn_newC (h := h)) (hs_newC (h := h)) newG
  have hm := I.lt
  refine ⟨h', a, b, c', newG, e, fun k => ?_⟩
  rw [← a, ← I.1]
  exact ⟨newI (h := h) (t := t) (n := N) (w := N), by rw [hR_setR, if_neg (fun y => absurd y.1 (by omega))]; exact newR⟩
theorem InvX.stI {k : Nat} {v : Int32} (I : InvX h0 h m t0 n0 c w L V) : ∃ h', setI h m k v = h' ∧ InvX h0 h' m t0 n0 c w L (fun j => if j = k then v else V j) ∧ Chg (fun i => i = m) h h' := by
  obtain ⟨i1, i2, i3, i4, i5, i6, i7, i9⟩ := I
  have C : Chg (fun i => i = m) h (setI h m k v) := Chg.setI rfl
  refine ⟨_, rfl, ⟨i1, i2, i3, i4, i5, i6, fun j => ?_, i9.tr C⟩, C⟩
  rw [hI_setI]
  by_cases e : j = k
  · rw [if_pos ⟨rfl, e⟩]; exact (if_pos e).symm
  · rw [if_neg (fun y => e y.2)]; exact (i7 j).trans (if_neg e).symm
theorem InvX.start {h : PH} (g : hG h m = (t0, n0)) (hl : hn h = m + 1) (z : ∀ k, hI h m k = 0 ∧ hR h m k = none) : InvX h h m t0 n0 1 0 [] (fun _ => 0) := ⟨hl, rfl, by omega, g, fun q hq => absurd hq List.not_mem_nil, fun k _ => (z k).2, fun k => (z k).1, Chg.rf⟩
/-- the field f of an object that is made -/
theorem InvX.fi (I : InvX h0 h m t0 n0 c w L V) (j : Nat) {f o t N : Nat} (e : L[j]? = some (f, o, t, N)) : hR h m f = some (m + o) ∧ hG h (m + o) = (t, N) := by
  have := I.2.2.2.2.1 _ (List.mem_of_getElem? e)
  exact ⟨this.1, this.2.2.2⟩
end IX
def z5 : WS := ([], [], 2, 5, 0, 0, 1)
section KX
variable {d : Nat} {h : PH} {o c : Nat}
theorem n_X0 (g : hG h o = (0, 2)) (hl : hn h = o + 1) (z : ∀ k, hI h o k = 0 ∧ hR h o k = none) : ∃ h1, JMt mX0_init none (d + 1) [.ref o] h none h1 ∧ hn h1 = o + 2 ∧ hs h1 = hs h + 64 ∧ Chg (fun i => i = o) h h1 ∧ CrowdS h1 o (o + 1) [] := by
  have I0 := InvX.start g hl z
  obtain ⟨h1, e1, I1, a1, b1, C1, -⟩ := I0.nwC (f := 0) (t := 20) (N := 64) (by omega) (by omega) (fun q hq => absurd hq List.not_mem_nil)
  refine ⟨h1, jm mi_X0_init (Nat.le_of_ble_eq_true rfl) rfl rfl (k_X0_init_0 (by decide) (by decide) (by omega) (vv_l I0.lt (vv_s I0.lt vv_o)) rfl a1 b1 (by omega) e1), I1.1, I1.2.1, C1, I1.g, (I1.fi 0 rfl).1, (I1.fi 0 rfl).2, I1.2.2.2.2.2.2.1 1, Nat.zero_le _, fun p hp => absurd hp (Nat.not_lt_zero p), fun q hq => absurd hq List.not_mem_nil⟩
theorem n_X2 {n : Nat} (g : hG h o = (2, 3)) (hl : hn h = o + 1) (z : ∀ k, hI h o k = 0 ∧ hR h o k = none) (gc : hG h c = (0, n)) : ∃ h1, JMt mX2_init none (d + 1) [.ref o, .ref c] h none h1 ∧ hn h1 = o + 2 ∧ hs h1 = hs h + 8 ∧ Chg (fun i => i = o) h h1 ∧ PileS h1 o c (o + 1) [] := by
  have I0 := InvX.start g hl z
  obtain ⟨h1, e1, I1, a1, b1, C1, -⟩ := I0.nwC (f := 1) (t := 20) (N := 8) (by omega) (by omega) (fun q hq => absurd hq List.not_mem_nil)
  have hc : c < hn h := (hG_lt gc (by omega)).1
  have C2 : Chg (fun i => i = o) h1 (setR h1 o 0 (some c)) := Chg.setR rfl
  refine ⟨_, jm mi_X2_init (Nat.le_of_ble_eq_true rfl) rfl rfl (k_X2_init_0 (by decide) (by decide) (by omega) (vv_l I0.lt (vv_l hc (vv_s I0.lt vv_o))) rfl a1 b1 (by omega) e1 I1.g (C1.gg gc (by omega)) (by omega) rfl), I1.1, I1.2.1, C1.tr C2, I1.g, by rw [hR_setR, if_pos ⟨rfl, rfl⟩], by rw [hR_setR, if_neg (by omega)]; exact (I1.fi 0 rfl).1, (I1.fi 0 rfl).2, I1.2.2.2.2.2.2.1 2, Nat.zero_le _, fun p hp => absurd hp (Nat.not_lt_zero p)⟩
theorem n_X3 {n : Nat} (g : hG h o = (3, 5)) (hl : hn h = o + 1) (z : ∀ k, hI h o k = 0 ∧ hR h o k = none) (gc : hG h c = (5, n)) : ∃ h1, JMt mX3_init none (d + 1) [.ref o, .ref c] h none h1 ∧ hn h1 = o + 2 ∧ hs h1 = hs h + 5 ∧ Chg (fun i => i = o) h h1 ∧ ReadT h1 o (o + 1) c := by
  have I0 := InvX.start g hl z
  obtain ⟨h1, e1, I1, a1, b1, C1, -⟩ := I0.nwC (f := 1) (t := 20) (N := 5) (by omega) (by omega) (fun q hq => absurd hq List.not_mem_nil)
  have hc : c < hn h := (hG_lt gc (by omega)).1
  have C2 : Chg (fun i => i = o) h1 (setR h1 o 0 (some c)) := Chg.setR rfl
  refine ⟨_, jm mi_X3_init (Nat.le_of_ble_eq_true rfl) rfl rfl (k_X3_init_0 (by decide) (by decide) (by omega) (vv_l I0.lt (vv_l hc (vv_s I0.lt vv_o))) rfl a1 b1 (by omega) e1 I1.g (C1.gg gc (by omega)) (by omega) rfl), I1.1, I1.2.1, C1.tr C2, I1.g, by rw [hR_setR, if_pos ⟨rfl, rfl⟩], by rw [hR_setR, if_neg (by omega)]; exact (I1.fi 0 rfl).1, (I1.fi 0 rfl).2⟩
theorem n_X5 (g : hG h o = (5, 2)) (hl : hn h = o + 1) (z : ∀ k, hI h o k = 0 ∧ hR h o k = none) : ∃ h1, JMt mX5_init none (d + 1) [.ref o] h none h1 ∧ hn h1 = o + 2 ∧ hs h1 = hs h + 250 ∧ Chg (fun i => i = o) h h1 ∧ TapeS h1 o (o + 1) [] := by
  have I0 := InvX.start g hl z
  obtain ⟨h1, e1, I1, a1, b1, C1, -⟩ := I0.nwC (f := 0) (t := 20) (N := 250) (by omega) (by omega) (fun q hq => absurd hq List.not_mem_nil)
  refine ⟨h1, jm mi_X5_init (Nat.le_of_ble_eq_true rfl) rfl rfl (k_X5_init_0 (by decide) (by decide) (by omega) (vv_l I0.lt (vv_s I0.lt vv_o)) rfl a1 b1 (by omega) e1), I1.1, I1.2.1, C1, I1.g, (I1.fi 0 rfl).1, (I1.fi 0 rfl).2, I1.2.2.2.2.2.2.1 1, Nat.zero_le _, fun p hp => absurd hp (Nat.not_lt_zero p), fun q hq => absurd hq List.not_mem_nil⟩
theorem n_X1 {n : Nat} (g : hG h o = (1, 8)) (hl : hn h = o + 1) (z : ∀ k, hI h o k = 0 ∧ hR h o k = none) (gc : hG h c = (0, n)) (hco : c ≠ o) : ∃ h1, JMt mX1_init none (d + 1) [.ref o, .ref c] h none h1 ∧ hn h1 = o + 7 ∧ hs h1 = hs h + 3328 ∧ Chg (fun i => i = o) h h1 ∧ LinT h1 o c := by
  have I0 := InvX.start g hl z
  have hc : c < hn h := (hG_lt gc (by omega)).1
  obtain ⟨h1, e1, I1, a1, b1, C1, Z1⟩ := I0.nwC (f := 1) (t := 20) (N := 256) (by omega) (by omega) (by decide)
  obtain ⟨h2, e2, I2, a2, b2, C2, Z2⟩ := I1.nwC (f := 2) (t := 20) (N := 256) (by omega) (by omega) (by decide)
  obtain ⟨h3, e3, I3, a3, b3, C3, -⟩ := I2.nwC (f := 3) (t := 20) (N := 256) (by omega) (by omega) (by decide)
  obtain ⟨h4, e4, I4, a4, b4, C4, -⟩ := I3.nwC (f := 4) (t := 20) (N := 256) (by omega) (by omega) (by decide)
  obtain ⟨h5, e5, I5, a5, b5, C5, -⟩ := I4.nwC (f := 5) (t := 20) (N := 256) (by omega) (by omega) (by decide)
  obtain ⟨h6, e6, I6, a6, b6, C6, -⟩ := I5.nwC (f := 6) (t := 20) (N := 2048) (by omega) (by omega) (by decide)
  have l1 : c < hn h1 := Nat.lt_of_lt_of_le hc C1.1
  have l2 : c < hn h2 := Nat.lt_of_lt_of_le l1 C2.1
  have l3 : c < hn h3 := Nat.lt_of_lt_of_le l2 C3.1
  have l4 : c < hn h4 := Nat.lt_of_lt_of_le l3 C4.1
  have l5 : c < hn h5 := Nat.lt_of_lt_of_le l4 C5.1
  have C36 := ((C3.tr C4).tr C5).tr C6
  have C26 := C2.tr C36
  have C06 := C1.tr C26
  have C7 : Chg (fun i => i = o) h6 (setR h6 o 0 (some c)) := Chg.setR rfl
  have r7 : ∀ k, k ≠ 0 → hR (setR h6 o 0 (some c)) o k = hR h6 o k := fun k hk => by rw [hR_setR, if_neg (fun y => hk y.2)]
  have z1 : hI h6 (o + 1) 0 = 0 := by
    rw [((C26.2.2 (o + 1) (by rw [I1.1]; omega)).2 (by omega)).1]
    exact (Z1 0).1
  have z2 : hI h6 (o + 2) 0 = 0 := by
    rw [((C36.2.2 (o + 2) (by rw [I2.1]; omega)).2 (by omega)).1]
    exact (Z2 0).1
  refine ⟨_, jm mi_X1_init (Nat.le_of_ble_eq_true rfl) rfl rfl (k_X1_init_0 (by decide) (by decide) (by omega) (vv_l I0.lt (vv_l hc (vv_s I0.lt vv_o))) rfl a1 b1 (by omega) e1 (by decide) (by decide) (by omega) (vv_l I1.lt (vv_l l1 (vv_s I1.lt vv_o))) rfl a2 b2 (by omega) e2 (by decide) (by decide) (by omega) (vv_l I2.lt (vv_l l2 (vv_s I2.lt vv_o))) rfl a3 b3 (by omega) e3 (by decide) (by decide) (by omega) (vv_l I3.lt (vv_l l3 (vv_s I3.lt vv_o))) rfl a4 b4 (by omega) e4 (by decide) (by decide) (by omega) (vv_l I4.lt (vv_l l4 (vv_s I4.lt vv_o))) rfl a5 b5 (by omega) e5 (by decide) (by decide) (by omega) (vv_l I5.lt (vv_l l5 (vv_s I5.lt vv_o))) rfl a6 b6 (by omega) e6 I6.g (C06.gg gc (by omega)) (by omega) rfl), I6.1, I6.2.1, C06.tr C7, I6.g, by rw [hR_setR, if_pos ⟨rfl, rfl⟩], (r7 1 (by omega)).trans (I6.fi 0 rfl).1, (r7 2 (by omega)).trans (I6.fi 1 rfl).1, (r7 3 (by omega)).trans (I6.fi 2 rfl).1, (r7 4 (by omega)).trans (I6.fi 3 rfl).1, (r7 5 (by omega)).trans (I6.fi 4 rfl).1, (r7 6 (by omega)).trans (I6.fi 5 rfl).1, (I6.fi 0 rfl).2, (I6.fi 1 rfl).2, (I6.fi 2 rfl).2, (I6.fi 3 rfl).2, (I6.fi 4 rfl).2, (I6.fi 5 rfl).2, z1, z2⟩
/-- a new object, made by its constructor -/
theorem n_new {h2 h4 : PH} {t n : Nat} (e : newC h t n n = h2) (C : Chg (fun i => i = hn h) h2 h4) : Chg (fun _ => False) h h4 := by
  rw [← e] at C
  exact (Chg.newC (S := fun _ => False)).tr2 C (fun i hi y => by omega)
theorem n_X6 {w : Nat} (g : hG h w = (6, 7)) (hl : hn h = w + 1) (z : ∀ k, hI h w k = 0 ∧ hR h w k = none) : ∃ h1, JMt mX6_init none (d + 2) [.ref w] h none h1 ∧ hn h1 = w + 5 ∧ hs h1 = hs h + 77 ∧ Chg (fun i => i = w) h h1 ∧ WorldS h1 w z5 := by
  have I0 := InvX.start g hl z
  obtain ⟨h4, j4, n4, s4, c4, w4⟩ := n_X0 (d := d) (h := newC h 0 (fN 0) (fN 0)) (o := hn h) newG rfl (fun k => ⟨newI, newR⟩)
  have D4 : Chg (fun _ => False) h h4 := n_new rfl c4
  obtain ⟨h13, e13, I1, g4, C13, X13⟩ := I0.step (f := 0) (e := 2) (v := 66) (t := 0) (N := 2) (by omega) (by omega) (by decide) D4 (by omega) (by rw [s4]; show hs h + 2 + 64 = _; omega) w4.1
  rw [hl] at w4
  have w13 : CrowdS h13 (w + 1) (w + 2) [] := w4.chg X13 (by omega) (by omega)
  have c16 : Chg (fun _ => False) h13 (newC h13 2 (fN 2) (fN 2)) := Chg.newC
  have f16 : hR (newC h13 2 (fN 2) (fN 2)) w 0 = some (w + 1) := by
    rw [((c16.2.2 w I1.lt).2 (fun y => y)).2.2]; exact (I1.fi 0 rfl).1
  have n13 : hn h13 = w + 3 := I1.1
  obtain ⟨h22, j22, n22, s22, c22, w22⟩ := n_X2 (d := d) (h := newC h13 2 (fN 2) (fN 2)) (o := hn h13) (c := w + 1) newG rfl (fun k => ⟨newI, newR⟩) (c16.gg w13.1 (by omega))
  have D22 : Chg (fun _ => False) h13 h22 := n_new rfl c22
  obtain ⟨h31, e31, I2, g22, C31, X31⟩ := I1.step (f := 1) (e := 2) (v := 11) (t := 2) (N := 3) (by omega) (by omega) (by decide) D22 (by omega) (by rw [s22]; show hs h13 + 3 + 8 = _; omega) w22.1
  rw [n13] at w22
  obtain ⟨h35, e35, I3, C35⟩ := I2.stI (k := 2) (v := 2)
  obtain ⟨h39, e39, I4, C39⟩ := I3.stI (k := 3) (v := 5)
  obtain ⟨h43, e43, I5, C43⟩ := I4.stI (k := 6) (v := 1)
  have Ce := (C35.tr C39).tr C43
  have iv := I5.2.2.2.2.2.2.1
  refine ⟨h43, jm mi_X6_init (Nat.le_of_ble_eq_true rfl) rfl rfl (k_X6_init_0 (vv_l I0.lt (vv_s I0.lt vv_o)) rfl j4 (Or.inr (vv_l (Nat.lt_succ_of_lt I0.lt) (vv_s (Nat.lt_succ_self _) (vv_s (Nat.lt_succ_of_lt I0.lt) vv_o)))) g4 (show hG h4 (hn h) = (0, 2) by rw [hl]; exact w4.1) (by omega) e13 (vv_l I1.lt (vv_s I1.lt vv_o)) rfl (c16.gg I1.g (by omega)) f16 j22 (Or.inr (vv_l (Nat.lt_succ_of_lt I1.lt) (vv_s (Nat.lt_succ_self _) (vv_s (Nat.lt_succ_of_lt I1.lt) vv_o)))) g22 (show hG h22 (hn h13) = (2, 3) by rw [n13]; exact w22.1) (by omega) e31 I2.g e35 I3.g e39 I4.g e43), I5.1, I5.2.1, I5.2.2.2.2.2.2.2, I5.g, (I5.fi 0 rfl).1, (I5.fi 1 rfl).1, w13.chg (C31.tr Ce) (by omega) (by omega), w22.chg (X31.tr Ce) (by omega) (by omega), (iv 2).trans rfl, (iv 3).trans rfl, (iv 4).trans rfl, (iv 5).trans rfl, (iv 6).trans rfl⟩
end KX
