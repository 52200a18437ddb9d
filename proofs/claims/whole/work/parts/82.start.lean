/-! what the start gives -/
theorem lm {w : Cond} {i : Nat} (h : lw_tbl[i]? = some w) : w ∈ lw_tbl := List.mem_of_getElem? h
theorem str_at {args : Array Value} {s : State} {A : Nat → Prop} {own tx : String} {k len : Nat} {byt : List Int32} (hl : len < 2 ^ 31) (hR : (Cond.stringRef own k tx).before args s = true) (hex : (Cond.exactly (.string own k) "java/lang/String").before args s = true) (hco : (Cond.eq (.field (.string own k) "java/lang/String" "coder" "B") (.int 0)).before args s = true) (har : (Cond.arrayOf (.field (.string own k) "java/lang/String" "value" "[B") .byte).before args s = true) (hle : (Cond.eq (.length (.field (.string own k) "java/lang/String" "value" "[B")) (.int (Int32.ofNat len))).before args s = true) (hel : ∀ j : Nat, j < len → (Cond.eq (.elem (.field (.string own k) "java/lang/String" "value" "[B") (.int (Int32.ofNat j))) (.int (byt.getD j 0))).before args s = true) (hA : ∀ a : Nat, a < s.heap.size → ¬ A a) : ∃ a t : Nat, vk_R own k tx a s ∧ va_O "java/lang/String" a A s s.heap ∧ va_OF "java/lang/String" "coder" "B" (.int 0) a A s s.heap ∧ va_OF "java/lang/String" "value" "[B" (.ref t) a A s s.heap ∧ va_T .byte t len (fun j => .int (byt.getD j 0)) A s s.heap := by
  obtain ⟨a, c, cA, kA, q1, q2, q3, q4, q5, q6, -⟩ := Cond.exactly_spec (args := args) (first := s) (o := none) (s := s) (idx := []) (t := .string own k) (cls := "java/lang/String") hex
  obtain ⟨t, ht, hT⟩ := va_Tof (f := fun j => .int (byt.getD j 0)) (A := A) hl har (va_eqt hle) (fun j hj => va_eqt (hel j hj)) hA
  exact ⟨a, t, vk_R.of hR q1, ⟨cA, q3, q5, by rw [q6]; exact q2, hA a (Array.getElem?_eq_some_iff.mp q3).1⟩, vk_OFof q1 (va_eqt hco) hA, vk_OFof q1 ht hA, hT⟩
theorem arr_at {s : State} {args : Array Value} {ty : FieldType} (h : (Cond.arrayClass ty).before args s = true) (hty : ty = .int ∨ ty = .boolean ∨ ty = .long) : ∃ cA : ClassId, ArrOfT s cA ty ∧ va_RA s cA ty := by
  obtain ⟨cA, kA, comp, h1, h2, h3⟩ := Cond.arrayClass_spec h
  refine ⟨cA, fun n z => ⟨(fun k h => by cases h), kA, h2, comp, h3⟩, ?_⟩
  rcases hty with rfl | rfl | rfl <;> exact h1
theorem arrO_at {s : State} {args : Array Value} {C : String} (h : (Cond.arrayOver (.object C)).before args s = true) : ∃ cA : ClassId, ArrOfT s cA (.object C) ∧ va_RA s cA (.object C) := by
  obtain ⟨comp, cA, kA, f1, -, f2, f3, f4⟩ := Cond.arrayOver_spec h
  exact ⟨cA, fun n z => ⟨(fun k h => by cases h), kA, f2, comp, f3⟩, kA, comp, f2, f3, f1, f4⟩
theorem arrA_at {s : State} {args : Array Value} {t : FieldType} (h : (Cond.arrayOver (.array t)).before args s = true) : ∃ cA : ClassId, ArrOfT s cA (.array t) ∧ va_RA s cA (.array t) := by
  obtain ⟨comp, cA, kA, f1, f2, f3, f4⟩ := Cond.arrayOver_specA h
  exact ⟨cA, fun n z => ⟨(fun k h => by cases h), kA, f2, comp, f3⟩, f4⟩
theorem nest_at {s : State} {args : Array Value} (hts : ∀ w ∈ lw_tbl, w.before args s = true) : ∀ w ∈ nestW, va_Nw w s := fun w hw => by
  obtain ⟨h1, h2⟩ := List.mem_filter.mp hw
  have hb := hts w (List.mem_append.mpr (Or.inr h1))
  cases w <;> first | exact va_Nw.of rfl hb | cases h2
theorem sq_at {s : State} {A : Nat → Prop} {C n d : String} (h : va_Zq C n d A s s.heap) : ∃ f : Nat, va_Z C n d .null A s s.heap ∨ va_Z C n d (.ref f) A s s.heap := by
  rcases h with h | ⟨t, h⟩
  · exact ⟨0, Or.inl h⟩
  · exact ⟨t, Or.inr h⟩
theorem start_ok {s : State} {b L : Nat} {xs : Nat → Int32} (hts : ∀ w ∈ lw_tbl, w.before #[Value.ref b] s = true) (hX : va_X b L xs s s.heap) (hbl : b < s.heap.size) (hgv : (Jvm.Cond.and given_1 narrow_1).before #[Value.ref b] s = true) : ∃ Γ : GA, Γ.2.2.1 5 = b ∧ Γ.2.2.2.1 = L ∧ Γ.2.2.2.2 = xs ∧ KF Γ s ∧ CF Γ (fun q => s.heap.size ≤ q) s := by
  have hs := flat_of_before _ hgv
  have hg : ∀ w ∈ gtbl, w.before #[Value.ref b] s = true := fun w hw => hts w (gtbl_in hw).1
  have hA : ∀ a : Nat, a < s.heap.size → ¬ (fun q => s.heap.size ≤ q) a := fun a ha => Nat.not_le.mpr ha
  have hscr : va_T .int b L (fun j => .int (xs j)) (fun q => s.heap.size ≤ q) s s.heap := by
    obtain ⟨scr, g1, g2, g3, g4, g5⟩ := hX
    exact ⟨scr, g1, g2, g3, by rw [g4]; exact Nat.le_refl _, by rw [g4], g5, hA b hbl⟩
  obtain ⟨k0, i0, K0⟩ := u_known hg uws_0 (hg _ in_X0)
  obtain ⟨k1, i1, K1⟩ := u_known hg uws_1 (hg _ in_X1)
  obtain ⟨k2, i2, K2⟩ := u_known hg uws_2 (hg _ in_X2)
  obtain ⟨k3, i3, K3⟩ := u_known hg uws_3 (hg _ in_X3)
  obtain ⟨k4, i4, K4⟩ := u_known hg uws_4 (hg _ in_X4)
  obtain ⟨k5, i5, K5⟩ := u_known hg uws_5 (hg _ in_X5)
  obtain ⟨k6, i6, K6⟩ := u_known hg uws_6 (hg _ in_X6)
  obtain ⟨k7, i7, K7⟩ := u_known hg uws_7 (hg _ in_X7)
  obtain ⟨k8, i8, K8⟩ := u_known hg uws_8 (hg _ in_X8)
  obtain ⟨y0, Y0⟩ := arr_at (hg _ ac_int) (Or.inl rfl)
  obtain ⟨y1, Y1⟩ := arr_at (hg _ ac_boolean) (Or.inr (Or.inl rfl))
  obtain ⟨y2, Y2⟩ := arr_at (hg _ ac_long) (Or.inr (Or.inr rfl))
  have ao : (Cond.arrayOver (.object RX4)).before #[Value.ref b] s = true := hts _ (lm (i := 257) (by decide +kernel))
  have al : (Cond.arrayOver (.array .long)).before #[Value.ref b] s = true := hts _ (lm (i := 1104) (by decide +kernel))
  have ai : (Cond.arrayOver (.array .int)).before #[Value.ref b] s = true := hts _ (lm (i := 1106) (by decide +kernel))
  obtain ⟨y3, Y3⟩ := arrO_at ao
  obtain ⟨y4, Y4⟩ := arrA_at al
  obtain ⟨y5, Y5⟩ := arrA_at ai
  obtain ⟨t0, e0, T0⟩ := va_Tof (tm := .static "TowerOfTurns" "KIND_ABOVE" "[I") (ty := .int) (N := 6) (f := fun j => .int ((ctab0 0).getD j 0)) (A := fun q => s.heap.size ≤ q) (by omega) (hs _ (by decide +kernel)) (va_eqt (z := 6) (hs _ (by decide +kernel))) (fun j hj => va_eqt (by
    rcases (by omega : j = 0 ∨ j = 1 ∨ j = 2 ∨ j = 3 ∨ j = 4 ∨ j = 5) with rfl | rfl | rfl | rfl | rfl | rfl
    · exact hs _ (by decide +kernel)
    · exact hs _ (by decide +kernel)
    · exact hs _ (by decide +kernel)
    · exact hs _ (by decide +kernel)
    · exact hs _ (by decide +kernel)
    · exact hs _ (by decide +kernel))) hA
  have Z0 := va_Zref (A := fun q => s.heap.size ≤ q) (hts _ (lm (i := 408) (by decide +kernel)) : (Cond.laysStatic RX7 "KIND_ABOVE" "[I").before _ s = true) (hg _ ini_X7) e0 hA
  obtain ⟨t1, e1, T1⟩ := va_Tof (tm := .static "TowerOfTurns" "LEAST_TRAIT" "[I") (ty := .int) (N := 5) (f := fun j => .int ((ctab0 1).getD j 0)) (A := fun q => s.heap.size ≤ q) (by omega) (hs _ (by decide +kernel)) (va_eqt (z := 5) (hs _ (by decide +kernel))) (fun j hj => va_eqt (by
    rcases (by omega : j = 0 ∨ j = 1 ∨ j = 2 ∨ j = 3 ∨ j = 4) with rfl | rfl | rfl | rfl | rfl
    · exact hs _ (by decide +kernel)
    · exact hs _ (by decide +kernel)
    · exact hs _ (by decide +kernel)
    · exact hs _ (by decide +kernel)
    · exact hs _ (by decide +kernel))) hA
  have Z1 := va_Zref (A := fun q => s.heap.size ≤ q) (hts _ (lm (i := 422) (by decide +kernel)) : (Cond.laysStatic RX7 "LEAST_TRAIT" "[I").before _ s = true) (hg _ ini_X7) e1 hA
  obtain ⟨t2, e2, T2⟩ := va_Tof (tm := .static "TowerOfTurns" "GREATEST_TRAIT" "[I") (ty := .int) (N := 5) (f := fun j => .int ((ctab0 2).getD j 0)) (A := fun q => s.heap.size ≤ q) (by omega) (hs _ (by decide +kernel)) (va_eqt (z := 5) (hs _ (by decide +kernel))) (fun j hj => va_eqt (by
    rcases (by omega : j = 0 ∨ j = 1 ∨ j = 2 ∨ j = 3 ∨ j = 4) with rfl | rfl | rfl | rfl | rfl
    · exact hs _ (by decide +kernel)
    · exact hs _ (by decide +kernel)
    · exact hs _ (by decide +kernel)
    · exact hs _ (by decide +kernel)
    · exact hs _ (by decide +kernel))) hA
  have Z2 := va_Zref (A := fun q => s.heap.size ≤ q) (hts _ (lm (i := 424) (by decide +kernel)) : (Cond.laysStatic RX7 "GREATEST_TRAIT" "[I").before _ s = true) (hg _ ini_X7) e2 hA
  obtain ⟨t3, e3, T3⟩ := va_Tof (tm := .static "TowerOfTurns" "LEAST_SETTING" "[I") (ty := .int) (N := 3) (f := fun j => .int ((ctab0 3).getD j 0)) (A := fun q => s.heap.size ≤ q) (by omega) (hs _ (by decide +kernel)) (va_eqt (z := 3) (hs _ (by decide +kernel))) (fun j hj => va_eqt (by
    rcases (by omega : j = 0 ∨ j = 1 ∨ j = 2) with rfl | rfl | rfl
    · exact hs _ (by decide +kernel)
    · exact hs _ (by decide +kernel)
    · exact hs _ (by decide +kernel))) hA
  have Z3 := va_Zref (A := fun q => s.heap.size ≤ q) (hts _ (lm (i := 468) (by decide +kernel)) : (Cond.laysStatic RX7 "LEAST_SETTING" "[I").before _ s = true) (hg _ ini_X7) e3 hA
  obtain ⟨t4, e4, T4⟩ := va_Tof (tm := .static "TowerOfTurns" "GREATEST_SETTING" "[I") (ty := .int) (N := 3) (f := fun j => .int ((ctab0 4).getD j 0)) (A := fun q => s.heap.size ≤ q) (by omega) (hs _ (by decide +kernel)) (va_eqt (z := 3) (hs _ (by decide +kernel))) (fun j hj => va_eqt (by
    rcases (by omega : j = 0 ∨ j = 1 ∨ j = 2) with rfl | rfl | rfl
    · exact hs _ (by decide +kernel)
    · exact hs _ (by decide +kernel)
    · exact hs _ (by decide +kernel))) hA
  have Z4 := va_Zref (A := fun q => s.heap.size ≤ q) (hts _ (lm (i := 471) (by decide +kernel)) : (Cond.laysStatic RX7 "GREATEST_SETTING" "[I").before _ s = true) (hg _ ini_X7) e4 hA
  obtain ⟨a0, v0, S0⟩ := str_at (args := #[Value.ref b]) (A := fun q => s.heap.size ≤ q) (own := "TowerOfTurns$Reader") (tx := "person") (k := 36) (len := 6) (byt := [112, 101, 114, 115, 111, 110]) (by omega) (hts _ (lm (i := 545) (by decide +kernel))) (hs _ (by decide +kernel)) (hs _ (by decide +kernel)) (hs _ (by decide +kernel)) (hs _ (by decide +kernel)) (fun j hj => by
    rcases (by omega : j = 0 ∨ j = 1 ∨ j = 2 ∨ j = 3 ∨ j = 4 ∨ j = 5) with rfl | rfl | rfl | rfl | rfl | rfl
    · exact hs _ (by decide +kernel)
    · exact hs _ (by decide +kernel)
    · exact hs _ (by decide +kernel)
    · exact hs _ (by decide +kernel)
    · exact hs _ (by decide +kernel)
    · exact hs _ (by decide +kernel)) hA
  obtain ⟨a1, v1, S1⟩ := str_at (args := #[Value.ref b]) (A := fun q => s.heap.size ≤ q) (own := "TowerOfTurns$Reader") (tx := "climb") (k := 45) (len := 5) (byt := [99, 108, 105, 109, 98]) (by omega) (hts _ (lm (i := 611) (by decide +kernel))) (hs _ (by decide +kernel)) (hs _ (by decide +kernel)) (hs _ (by decide +kernel)) (hs _ (by decide +kernel)) (fun j hj => by
    rcases (by omega : j = 0 ∨ j = 1 ∨ j = 2 ∨ j = 3 ∨ j = 4) with rfl | rfl | rfl | rfl | rfl
    · exact hs _ (by decide +kernel)
    · exact hs _ (by decide +kernel)
    · exact hs _ (by decide +kernel)
    · exact hs _ (by decide +kernel)
    · exact hs _ (by decide +kernel)) hA
  obtain ⟨a2, v2, S2⟩ := str_at (args := #[Value.ref b]) (A := fun q => s.heap.size ≤ q) (own := "TowerOfTurns$Reader") (tx := "down") (k := 50) (len := 4) (byt := [100, 111, 119, 110]) (by omega) (hts _ (lm (i := 635) (by decide +kernel))) (hs _ (by decide +kernel)) (hs _ (by decide +kernel)) (hs _ (by decide +kernel)) (hs _ (by decide +kernel)) (fun j hj => by
    rcases (by omega : j = 0 ∨ j = 1 ∨ j = 2 ∨ j = 3) with rfl | rfl | rfl | rfl
    · exact hs _ (by decide +kernel)
    · exact hs _ (by decide +kernel)
    · exact hs _ (by decide +kernel)
    · exact hs _ (by decide +kernel)) hA
  obtain ⟨a3, v3, S3⟩ := str_at (args := #[Value.ref b]) (A := fun q => s.heap.size ≤ q) (own := "TowerOfTurns$Reader") (tx := "wind") (k := 63) (len := 4) (byt := [119, 105, 110, 100]) (by omega) (hts _ (lm (i := 640) (by decide +kernel))) (hs _ (by decide +kernel)) (hs _ (by decide +kernel)) (hs _ (by decide +kernel)) (hs _ (by decide +kernel)) (fun j hj => by
    rcases (by omega : j = 0 ∨ j = 1 ∨ j = 2 ∨ j = 3) with rfl | rfl | rfl | rfl
    · exact hs _ (by decide +kernel)
    · exact hs _ (by decide +kernel)
    · exact hs _ (by decide +kernel)
    · exact hs _ (by decide +kernel)) hA
  obtain ⟨a4, v4, S4⟩ := str_at (args := #[Value.ref b]) (A := fun q => s.heap.size ≤ q) (own := "TowerOfTurns$Reader") (tx := "most") (k := 69) (len := 4) (byt := [109, 111, 115, 116]) (by omega) (hts _ (lm (i := 647) (by decide +kernel))) (hs _ (by decide +kernel)) (hs _ (by decide +kernel)) (hs _ (by decide +kernel)) (hs _ (by decide +kernel)) (fun j hj => by
    rcases (by omega : j = 0 ∨ j = 1 ∨ j = 2 ∨ j = 3) with rfl | rfl | rfl | rfl
    · exact hs _ (by decide +kernel)
    · exact hs _ (by decide +kernel)
    · exact hs _ (by decide +kernel)
    · exact hs _ (by decide +kernel)) hA
  obtain ⟨a5, v5, S5⟩ := str_at (args := #[Value.ref b]) (A := fun q => s.heap.size ≤ q) (own := "TowerOfTurns$Reader") (tx := "day") (k := 71) (len := 3) (byt := [100, 97, 121]) (by omega) (hts _ (lm (i := 648) (by decide +kernel))) (hs _ (by decide +kernel)) (hs _ (by decide +kernel)) (hs _ (by decide +kernel)) (hs _ (by decide +kernel)) (fun j hj => by
    rcases (by omega : j = 0 ∨ j = 1 ∨ j = 2) with rfl | rfl | rfl
    · exact hs _ (by decide +kernel)
    · exact hs _ (by decide +kernel)
    · exact hs _ (by decide +kernel)) hA
  obtain ⟨a6, v6, S6⟩ := str_at (args := #[Value.ref b]) (A := fun q => s.heap.size ≤ q) (own := "TowerOfTurnsModel") (tx := "person") (k := 206) (len := 6) (byt := [112, 101, 114, 115, 111, 110]) (by omega) (hts _ (lm (i := 1353) (by decide +kernel))) (hs _ (by decide +kernel)) (hs _ (by decide +kernel)) (hs _ (by decide +kernel)) (hs _ (by decide +kernel)) (fun j hj => by
    rcases (by omega : j = 0 ∨ j = 1 ∨ j = 2 ∨ j = 3 ∨ j = 4 ∨ j = 5) with rfl | rfl | rfl | rfl | rfl | rfl
    · exact hs _ (by decide +kernel)
    · exact hs _ (by decide +kernel)
    · exact hs _ (by decide +kernel)
    · exact hs _ (by decide +kernel)
    · exact hs _ (by decide +kernel)
    · exact hs _ (by decide +kernel)) hA
  obtain ⟨a7, v7, S7⟩ := str_at (args := #[Value.ref b]) (A := fun q => s.heap.size ≤ q) (own := "TowerOfTurnsModel") (tx := "climb") (k := 215) (len := 5) (byt := [99, 108, 105, 109, 98]) (by omega) (hts _ (lm (i := 1376) (by decide +kernel))) (hs _ (by decide +kernel)) (hs _ (by decide +kernel)) (hs _ (by decide +kernel)) (hs _ (by decide +kernel)) (fun j hj => by
    rcases (by omega : j = 0 ∨ j = 1 ∨ j = 2 ∨ j = 3 ∨ j = 4) with rfl | rfl | rfl | rfl | rfl
    · exact hs _ (by decide +kernel)
    · exact hs _ (by decide +kernel)
    · exact hs _ (by decide +kernel)
    · exact hs _ (by decide +kernel)
    · exact hs _ (by decide +kernel)) hA
  obtain ⟨a8, v8, S8⟩ := str_at (args := #[Value.ref b]) (A := fun q => s.heap.size ≤ q) (own := "TowerOfTurnsModel") (tx := "down") (k := 220) (len := 4) (byt := [100, 111, 119, 110]) (by omega) (hts _ (lm (i := 1389) (by decide +kernel))) (hs _ (by decide +kernel)) (hs _ (by decide +kernel)) (hs _ (by decide +kernel)) (hs _ (by decide +kernel)) (fun j hj => by
    rcases (by omega : j = 0 ∨ j = 1 ∨ j = 2 ∨ j = 3) with rfl | rfl | rfl | rfl
    · exact hs _ (by decide +kernel)
    · exact hs _ (by decide +kernel)
    · exact hs _ (by decide +kernel)
    · exact hs _ (by decide +kernel)) hA
  obtain ⟨a9, v9, S9⟩ := str_at (args := #[Value.ref b]) (A := fun q => s.heap.size ≤ q) (own := "TowerOfTurnsModel") (tx := "wind") (k := 222) (len := 4) (byt := [119, 105, 110, 100]) (by omega) (hts _ (lm (i := 1390) (by decide +kernel))) (hs _ (by decide +kernel)) (hs _ (by decide +kernel)) (hs _ (by decide +kernel)) (hs _ (by decide +kernel)) (fun j hj => by
    rcases (by omega : j = 0 ∨ j = 1 ∨ j = 2 ∨ j = 3) with rfl | rfl | rfl | rfl
    · exact hs _ (by decide +kernel)
    · exact hs _ (by decide +kernel)
    · exact hs _ (by decide +kernel)
    · exact hs _ (by decide +kernel)) hA
  obtain ⟨a10, v10, S10⟩ := str_at (args := #[Value.ref b]) (A := fun q => s.heap.size ≤ q) (own := "TowerOfTurnsModel") (tx := "most") (k := 223) (len := 4) (byt := [109, 111, 115, 116]) (by omega) (hts _ (lm (i := 1391) (by decide +kernel))) (hs _ (by decide +kernel)) (hs _ (by decide +kernel)) (hs _ (by decide +kernel)) (hs _ (by decide +kernel)) (fun j hj => by
    rcases (by omega : j = 0 ∨ j = 1 ∨ j = 2 ∨ j = 3) with rfl | rfl | rfl | rfl
    · exact hs _ (by decide +kernel)
    · exact hs _ (by decide +kernel)
    · exact hs _ (by decide +kernel)
    · exact hs _ (by decide +kernel)) hA
  obtain ⟨a11, v11, S11⟩ := str_at (args := #[Value.ref b]) (A := fun q => s.heap.size ≤ q) (own := "TowerOfTurnsModel") (tx := "day") (k := 224) (len := 3) (byt := [100, 97, 121]) (by omega) (hts _ (lm (i := 1392) (by decide +kernel))) (hs _ (by decide +kernel)) (hs _ (by decide +kernel)) (hs _ (by decide +kernel)) (hs _ (by decide +kernel)) (fun j hj => by
    rcases (by omega : j = 0 ∨ j = 1 ∨ j = 2) with rfl | rfl | rfl
    · exact hs _ (by decide +kernel)
    · exact hs _ (by decide +kernel)
    · exact hs _ (by decide +kernel)) hA
  have ZC := va_Zof (v := .int 1) (A := fun q => s.heap.size ≤ q) (hts _ (lm (i := 559) (by decide +kernel)) : (Cond.laysStatic "java/lang/String" "COMPACT_STRINGS" "Z").before _ s = true) (hg _ ini_J0) (va_eqi (hs _ (by decide +kernel))) hA
  obtain ⟨fm, ZS⟩ := sq_at (va_Zqof (A := fun q => s.heap.size ≤ q) (hts _ (lm (i := 575) (by decide +kernel)) : (Cond.laysStatic "jdk/internal/util/Preconditions" "SIOOBE_FORMATTER" "Ljava/util/function/BiFunction;").before _ s = true) (hg _ ini_J3) (hs _ (by decide +kernel)) hA)
  refine ⟨((fun c => [k0, k1, k2, k3, k4, k5, k6, k7, k8].getD c k0, fun c => [i0, i1, i2, i3, i4, i5, i6, i7, i8].getD c i0), fun t => [y0, y1, y2, y3, y4, y5].getD (t - 20) y0, fun k => [t0, t1, t2, t3, t4, b, a0, a1, a2, a3, a4, a5, a6, a7, a8, a9, a10, a11, v0, v1, v2, v3, v4, v5, v6, v7, v8, v9, v10, v11, fm].getD k 0, L, xs), rfl, rfl, rfl, ⟨⟨fun c q hq => ?_, fun k q hq => ?_⟩, nest_at hts, ao, al, ai⟩, fun k hk => ?_, fun k hk => ?_, fun i hi => ?_, ZC, ZS⟩
  · match c, hq with
    | 0, rfl => exact K0
    | 1, rfl => exact K1
    | 2, rfl => exact K2
    | 3, rfl => exact K3
    | 4, rfl => exact K4
    | 5, rfl => exact K5
    | 6, rfl => exact K6
    | 7, rfl => exact K7
    | 8, rfl => exact K8
  · match k, hq with
    | 0, rfl => exact Y0
    | 1, rfl => exact Y1
    | 2, rfl => exact Y2
    | 3, rfl => exact Y3
    | 4, rfl => exact Y4
    | 5, rfl => exact Y5
  · match k, hk with
    | 0, _ => exact Z0
    | 1, _ => exact Z1
    | 2, _ => exact Z2
    | 3, _ => exact Z3
    | 4, _ => exact Z4
  · match k, hk with
    | 0, _ => exact T0
    | 1, _ => exact T1
    | 2, _ => exact T2
    | 3, _ => exact T3
    | 4, _ => exact T4
    | 5, _ => exact hscr
  · match i, hi with
    | 0, _ => exact S0
    | 1, _ => exact S1
    | 2, _ => exact S2
    | 3, _ => exact S3
    | 4, _ => exact S4
    | 5, _ => exact S5
    | 6, _ => exact S6
    | 7, _ => exact S7
    | 8, _ => exact S8
    | 9, _ => exact S9
    | 10, _ => exact S10
    | 11, _ => exact S11
