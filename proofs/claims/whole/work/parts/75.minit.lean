/-! objects are made: the reference's constructor -/
def Sub (h : PH) (a N ti K : Nat) : Prop := ∀ s, s < N → hR h a s = some (a + 1 + s) ∧ hG h (a + 1 + s) = (ti, K)
theorem Sub.chg {S : Nat → Prop} {h h1 : PH} {a N ti K : Nat} (hs : Sub h a N ti K) (c : Chg S h h1) (ha : ¬ S a) (hl : a < hn h) (ht : ti < 99) : Sub h1 a N ti K := fun s hsN => by
  obtain ⟨e1, e2⟩ := hs s hsN
  exact ⟨by rw [((c.2.2 a hl).2 ha).2.2]; exact e1, c.gg e2 ht⟩
theorem Chg.newM {S : Nat → Prop} {h : PH} {t ti N K : Nat} : Chg S h (newM h t ti N K) := ⟨by show h.1 ≤ h.1 + 1 + N; omega, Nat.le_add_right _ _, fun i hi => by
  have hi : i < h.1 := hi
  refine ⟨?_, fun _ => ⟨?_, ?_, ?_⟩⟩
  · exact (if_neg (by omega)).trans (if_neg (by omega))
  · funext k; exact if_neg (by omega)
  · funext k; exact if_neg (by omega)
  · funext k; exact (if_neg (by omega)).trans (if_neg (by omega))⟩
/-- an object being made at m: its cells so far (field, cell from m on, tag, length), its ints -/
def InvM (h0 h : PH) (m t0 n0 c w : Nat) (L : List (Nat × Nat × Nat × Nat)) (V : Nat → Int32) : Prop := hn h = m + c ∧ hs h = hs h0 + w ∧ 0 < c ∧ hG h m = (t0, n0) ∧ (∀ q ∈ L, hR h m q.1 = some (m + q.2.1) ∧ 0 < q.2.1 ∧ q.2.2.1 < 99 ∧ hG h (m + q.2.1) = (q.2.2.1, q.2.2.2)) ∧ (∀ k, (∀ q ∈ L, q.1 ≠ k) → hR h m k = none) ∧ (∀ k, hI h m k = V k) ∧ (∀ i, m < i → i < m + c → ∀ k, hI h i k = 0 ∧ hL h i k = 0) ∧ Chg (fun i => i = m) h0 h
section IM
variable {h0 h : PH} {m t0 n0 c w : Nat} {L : List (Nat × Nat × Nat × Nat)} {V : Nat → Int32}
theorem InvM.va (I : InvM h0 h m t0 n0 c w L V) : VA (hn h) [some (.ref m)] [.ref m] := by
  have : m < hn h := by rw [I.1]; have := I.2.2.1; omega
  exact vv_l this (vv_s this vv_o)
theorem InvM.step {h4 : PH} {f t N e v : Nat} (ht0 : t0 < 99) (ht : t < 99) (hf : ∀ q ∈ L, q.1 ≠ f) (I : InvM h0 h m t0 n0 c w L V) (C : Chg (fun _ => False) h h4) (e1 : hn h4 = hn h + e) (e0 : 0 < e) (e2 : hs h4 = hs h + v) (g : hG h4 (hn h) = (t, N)) (z : ∀ i, hn h ≤ i → i < hn h + e → ∀ k, hI h4 i k = 0 ∧ hL h4 i k = 0) : InvM h0 (setR h4 m f (some (hn h))) m t0 n0 (c + e) (w + v) (L ++ [(f, c, t, N)]) V ∧ Chg (fun i => i = m) h (setR h4 m f (some (hn h))) := by
  obtain ⟨i1, i2, i3, i4, i5, i6, i7, i8, i9⟩ := I
  have hm : m < hn h := by omega
  have C2 : Chg (fun i => i = m) h (setR h4 m f (some (hn h))) := (C.mono (fun _ y => y.elim)).tr (Chg.setR rfl)
  have old := (C.2.2 m hm).2 (fun y => y)
  have rm : ∀ k, hR (setR h4 m f (some (hn h))) m k = if k = f then some (hn h) else hR h m k := fun k => by
    rw [hR_setR, old.2.2]
    by_cases e : k = f
    · rw [if_pos ⟨rfl, e⟩, if_pos e]
    · rw [if_neg (fun y => e y.2), if_neg e]
  refine ⟨⟨by rw [hn_setR, e1, i1]; omega, by rw [hs_setR, e2, i2]; omega, by omega, C2.gg i4 ht0, fun q hq => ?_, fun k hk => ?_, fun k => ?_, fun i h1 h2 k => ?_, i9.tr C2⟩, C2⟩
  · rcases List.mem_append.mp hq with y | y
    · obtain ⟨j1, j2, j3, j4⟩ := i5 q y
      exact ⟨by rw [rm, if_neg (hf q y)]; exact j1, j2, j3, C2.gg j4 j3⟩
    · rw [List.mem_singleton.mp y]
      refine ⟨by rw [rm, if_pos rfl, i1], i3, ht, ?_⟩
      show hG (setR h4 m f (some (hn h))) (m + c) = (t, N)
      rw [hG_setR, ← i1]; exact g
  · rw [rm, if_neg (fun y => hk _ (List.mem_append.mpr (Or.inr (List.mem_singleton.mpr rfl))) y.symm)]
    exact i6 k (fun q hq => hk q (List.mem_append.mpr (Or.inl hq)))
  · rw [hI_setR, old.1]; exact i7 k
  · rw [hI_setR, hL_setR]
    by_cases y : i < hn h
    · have := (C.2.2 i y).2 (fun y => y)
      rw [this.1, this.2.1]
      exact i8 i h1 (by omega) k
    · exact z i (by omega) (by omega) k
theorem InvM.nwC {f t N : Nat} (ht0 : t0 < 99) (ht : t < 99) (hf : ∀ q ∈ L, q.1 ≠ f) (I : InvM h0 h m t0 n0 c w L V) : ∃ h', setR (newC h t N N) m f (some (hn h)) = h' ∧ InvM h0 h' m t0 n0 (c + 1) (w + N) (L ++ [(f, c, t, N)]) V ∧ hG (newC h t N N) m = (t0, n0) ∧ hG (newC h t N N) (hn h) = (t, N) ∧ Chg (fun i => i = m) h h' := by
  have C : Chg (fun _ => False) h (newC h t N N) := Chg.newC
  obtain ⟨a, b⟩ := I.step (f := f) ht0 ht hf C (hn_newC (h := h)) (by omega) (hs_newC (h := h)) newG (fun i h1 h2 k => by
    have : i = hn h := by omega
    subst this
    exact ⟨newI, newL⟩)
  exact ⟨_, rfl, a, C.gg I.2.2.2.1 ht0, newG, b⟩
theorem InvM.nwM {f t ti N K : Nat} (ht0 : t0 < 99) (ht : t < 99) (hf : ∀ q ∈ L, q.1 ≠ f) (I : InvM h0 h m t0 n0 c w L V) : ∃ h', setR (newM h t ti N K) m f (some (hn h)) = h' ∧ InvM h0 h' m t0 n0 (c + (1 + N)) (w + (N + N * K)) (L ++ [(f, c, t, N)]) V ∧ hG (newM h t ti N K) m = (t0, n0) ∧ hG (newM h t ti N K) (hn h) = (t, N) ∧ Chg (fun i => i = m) h h' ∧ Sub h' (m + c) N ti K := by
  have C : Chg (fun _ => False) h (newM h t ti N K) := Chg.newM
  have hnn : hn (newM h t ti N K) = hn h + (1 + N) := Nat.add_assoc _ _ _
  have gg : hG (newM h t ti N K) (hn h) = (t, N) := by
    unfold hG
    rw [if_pos (by omega)]
    exact if_pos rfl
  obtain ⟨a, b⟩ := I.step (f := f) (v := N + N * K) ht0 ht hf C hnn (by omega) rfl gg (fun i h1 h2 k => ⟨if_pos h1, if_pos h1⟩)
  have hm : m < hn h := by rw [I.1]; have := I.2.2.1; omega
  refine ⟨_, rfl, a, C.gg I.2.2.2.1 ht0, gg, b, fun s hs => ?_⟩
  rw [← I.1]
  constructor
  · rw [hR_setR, if_neg (by omega)]
    exact (if_pos rfl).trans (if_pos hs)
  · rw [hG_setR]
    unfold hG
    rw [if_pos (by omega)]
    exact (if_neg (by show ¬ hn h + 1 + s = hn h; omega)).trans (if_pos (by show hn h < hn h + 1 + s ∧ hn h + 1 + s < hn h + 1 + N; omega))
theorem InvM.stI {k : Nat} {v : Int32} (I : InvM h0 h m t0 n0 c w L V) : ∃ h', setI h m k v = h' ∧ InvM h0 h' m t0 n0 c w L (fun j => if j = k then v else V j) ∧ Chg (fun i => i = m) h h' := by
  obtain ⟨i1, i2, i3, i4, i5, i6, i7, i8, i9⟩ := I
  have C : Chg (fun i => i = m) h (setI h m k v) := Chg.setI rfl
  refine ⟨_, rfl, ⟨i1, i2, i3, i4, i5, i6, fun j => ?_, fun i h1 h2 j => ?_, i9.tr C⟩, C⟩
  · rw [hI_setI]
    by_cases e : j = k
    · rw [if_pos ⟨rfl, e⟩]; exact (if_pos e).symm
    · rw [if_neg (fun y => e y.2)]; exact (i7 j).trans (if_neg e).symm
  · rw [hI_setI, if_neg (by omega)]
    exact i8 i h1 h2 j
theorem InvM.start {h : PH} (g : hG h m = (t0, n0)) (hl : hn h = m + 1) (z : ∀ k, hI h m k = 0 ∧ hR h m k = none) : InvM h h m t0 n0 1 0 [] (fun _ => 0) := ⟨hl, rfl, by omega, g, fun q hq => absurd hq List.not_mem_nil, fun k _ => (z k).2, fun k => (z k).1, fun i h1 h2 => by omega, Chg.rf⟩
end IM

section MI
variable {d : Nat} {h : PH} {m : Nat}
theorem u_init (g : hG h m = (8, 38)) (hl : hn h = m + 1) (z : ∀ k, hI h m k = 0 ∧ hR h m k = none) : ∃ h1, JMt mX8_init none (d + 1) [.ref m] h none h1 ∧ hn h1 = m + 285 ∧ hs h1 = hs h + 3791 ∧ Chg (fun i => i = m) h h1 ∧ ModH h1 m ∧ (hR h1 m 22 = none ∧ hR h1 m 23 = none) ∧ (∀ k, hI h1 m k = if k = 21 then 1 else if k = 10 then 5 else if k = 9 then 2 else 0) ∧ ∀ i, m < i → i < m + 285 → ∀ k, hI h1 i k = 0 ∧ hL h1 i k = 0 := by
  have I0 := InvM.start g hl z
  obtain ⟨h1, e1, I1, a1, b1, C1⟩ := I0.nwC (f := 0) (t := 20) (N := 8) (by omega) (by omega) (by decide)
  obtain ⟨h2, e2, I2, a2, b2, C2⟩ := I1.nwC (f := 1) (t := 20) (N := 8) (by omega) (by omega) (by decide)
  obtain ⟨h3, e3, I3, a3, b3, C3⟩ := I2.nwC (f := 2) (t := 20) (N := 8) (by omega) (by omega) (by decide)
  obtain ⟨h4, e4, I4, a4, b4, C4, S4⟩ := I3.nwM (f := 3) (t := 24) (ti := 22) (N := 8) (K := 40) (by omega) (by omega) (by decide)
  obtain ⟨h5, e5, I5, a5, b5, C5⟩ := I4.nwC (f := 4) (t := 22) (N := 40) (by omega) (by omega) (by decide)
  obtain ⟨h6, e6, I6, a6, b6, C6⟩ := I5.nwC (f := 5) (t := 20) (N := 8) (by omega) (by omega) (by decide)
  obtain ⟨h7, e7, I7, a7, b7, C7⟩ := I6.nwC (f := 6) (t := 20) (N := 250) (by omega) (by omega) (by decide)
  obtain ⟨h8, e8, I8, a8, b8, C8⟩ := I7.nwC (f := 8) (t := 20) (N := 8) (by omega) (by omega) (by decide)
  obtain ⟨h9, e9, I9, C9⟩ := I8.stI (k := 9) (v := 2)
  obtain ⟨h10, e10, I10, C10⟩ := I9.stI (k := 10) (v := 5)
  obtain ⟨h11, e11, I11, a11, b11, C11⟩ := I10.nwC (f := 14) (t := 20) (N := 8) (by omega) (by omega) (by decide)
  obtain ⟨h12, e12, I12, a12, b12, C12⟩ := I11.nwC (f := 15) (t := 20) (N := 8) (by omega) (by omega) (by decide)
  obtain ⟨h13, e13, I13, a13, b13, C13⟩ := I12.nwC (f := 16) (t := 20) (N := 8) (by omega) (by omega) (by decide)
  obtain ⟨h14, e14, I14, a14, b14, C14⟩ := I13.nwC (f := 17) (t := 20) (N := 8) (by omega) (by omega) (by decide)
  obtain ⟨h15, e15, I15, a15, b15, C15⟩ := I14.nwC (f := 18) (t := 20) (N := 8) (by omega) (by omega) (by decide)
  obtain ⟨h16, e16, I16, a16, b16, C16⟩ := I15.nwC (f := 19) (t := 20) (N := 8) (by omega) (by omega) (by decide)
  obtain ⟨h17, e17, I17, C17⟩ := I16.stI (k := 21) (v := 1)
  obtain ⟨h18, e18, I18, a18, b18, C18⟩ := I17.nwC (f := 29) (t := 20) (N := 5) (by omega) (by omega) (by decide)
  obtain ⟨h19, e19, I19, a19, b19, C19⟩ := I18.nwC (f := 31) (t := 20) (N := 256) (by omega) (by omega) (by decide)
  obtain ⟨h20, e20, I20, a20, b20, C20⟩ := I19.nwC (f := 32) (t := 21) (N := 256) (by omega) (by omega) (by decide)
  obtain ⟨h21, e21, I21, a21, b21, C21, S21⟩ := I20.nwM (f := 33) (t := 25) (ti := 20) (N := 256) (K := 8) (by omega) (by omega) (by decide)
  obtain ⟨h22, e22, I22, a22, b22, C22⟩ := I21.nwC (f := 34) (t := 20) (N := 256) (by omega) (by omega) (by decide)
  obtain ⟨h23, e23, I23, a23, b23, C23⟩ := I22.nwC (f := 35) (t := 20) (N := 8) (by omega) (by omega) (by decide)
  have T4 : Chg (fun i => i = m) h4 h23 := ((((((((((((((((((C5).tr C6).tr C7).tr C8).tr C9).tr C10).tr C11).tr C12).tr C13).tr C14).tr C15).tr C16).tr C17).tr C18).tr C19).tr C20).tr C21).tr C22).tr C23
  have T21 : Chg (fun i => i = m) h21 h23 := (C22).tr C23
  obtain ⟨i1, i2, i3, i4, i5, i6, i7, i8, i9⟩ := I23
  refine ⟨h23, jm mi_X8_init (Nat.le_of_ble_eq_true rfl) rfl rfl (k_X8_init_0 (by decide) (by decide) (by omega) I0.va rfl a1 b1 (by omega) e1 (by decide) (by decide) (by omega) I1.va rfl a2 b2 (by omega) e2 (by decide) (by decide) (by omega) I2.va rfl a3 b3 (by omega) e3 (by decide) (by decide) (by decide) (by decide) (by omega) (by omega) I3.va rfl a4 b4 (by omega) e4 (by decide) (by decide) (by omega) I4.va rfl a5 b5 (by omega) e5 (by decide) (by decide) (by omega) I5.va rfl a6 b6 (by omega) e6 (by decide) (by decide) (by omega) I6.va rfl a7 b7 (by omega) e7 (by decide) (by decide) (by omega) I7.va rfl a8 b8 (by omega) e8 I8.2.2.2.1 e9 I9.2.2.2.1 e10 (by decide) (by decide) (by omega) I10.va rfl a11 b11 (by omega) e11 (by decide) (by decide) (by omega) I11.va rfl a12 b12 (by omega) e12 (by decide) (by decide) (by omega) I12.va rfl a13 b13 (by omega) e13 (by decide) (by decide) (by omega) I13.va rfl a14 b14 (by omega) e14 (by decide) (by decide) (by omega) I14.va rfl a15 b15 (by omega) e15 (by decide) (by decide) (by omega) I15.va rfl a16 b16 (by omega) e16 I16.2.2.2.1 e17 (by decide) (by decide) (by omega) I17.va rfl a18 b18 (by omega) e18 (by decide) (by decide) (by omega) I18.va rfl a19 b19 (by omega) e19 (by decide) (by decide) (by omega) I19.va rfl a20 b20 (by omega) e20 (by decide) (by decide) (by decide) (by decide) (by omega) (by omega) I20.va rfl a21 b21 (by omega) e21 (by decide) (by decide) (by omega) I21.va rfl a22 b22 (by omega) e22 (by decide) (by decide) (by omega) I22.va rfl a23 b23 (by omega) e23), i1, i2, i9, ⟨i4, fun q hq => ⟨(i5 q hq).1, (i5 q hq).2.2.2⟩, ?_, ?_⟩, ⟨i6 22 (by decide), i6 23 (by decide)⟩, i7, i8⟩
  · exact S4.chg T4 (by omega) (by rw [I4.1]; omega) (by omega)
  · exact S21.chg T21 (by omega) (by rw [I21.1]; omega) (by omega)
end MI
