/-! arrays of arrays; the constant texts -/
theorem wsG_newM {Γ : GA} {ad : Nat → Nat} {h : PH} {t ti N K q : Nat} {r : Nat → Nat} (wf : hwf h) : wsG Γ (fun i => if i = hn h then q else if hn h < i ∧ i < hn h + 1 + N then r (i - (hn h + 1)) else ad i) (newM h t ti N K) = (wsG Γ ad h ++ [(q, wcell Γ (fun i => if i = hn h then q else if hn h < i ∧ i < hn h + 1 + N then r (i - (hn h + 1)) else ad i) (newM h t ti N K) (hn h))]) ++ (List.range N).map (fun j => (r j, wcell Γ (fun i => if i = hn h then q else if hn h < i ∧ i < hn h + 1 + N then r (i - (hn h + 1)) else ad i) (newM h t ti N K) (hn h + 1 + j))) := by
  generalize hA : (fun i => if i = hn h then q else if hn h < i ∧ i < hn h + 1 + N then r (i - (hn h + 1)) else ad i) = ad1
  have hE : ∀ i, i < hn h → ad1 i = ad i := fun i hi => by
    rw [← hA]
    show (if i = hn h then q else if hn h < i ∧ i < hn h + 1 + N then r (i - (hn h + 1)) else ad i) = ad i
    rw [if_neg (by omega), if_neg (by omega)]
  have hq : ad1 (hn h) = q := by rw [← hA]; exact if_pos rfl
  have hr : ∀ j, j < N → ad1 (hn h + 1 + j) = r j := fun j hj => by
    rw [← hA]
    show (if hn h + 1 + j = hn h then q else if hn h < hn h + 1 + j ∧ hn h + 1 + j < hn h + 1 + N then r (hn h + 1 + j - (hn h + 1)) else ad _) = r j
    rw [if_neg (by omega), if_pos (by omega)]
    congr 1
    omega
  unfold wsG
  rw [show hn (newM h t ti N K) = hn h + 1 + N from rfl, List.range_add, List.range_succ, List.map_append, List.map_append, List.map_map]
  congr 1
  · congr 1
    · refine List.map_congr_left fun i hi => ?_
      have hi : i < hn h := List.mem_range.mp hi
      have h0 : i < h.1 := hi
      refine Prod.ext (hE i hi) (wcell_old (h1 := newM h t ti N K) hi wf hE ?_ ?_ ?_ ?_)
      · show (if i = h.1 then (t, N) else if h.1 < i ∧ i < h.1 + 1 + N then (ti, K) else h.2.2.1 i) = _
        rw [if_neg (by omega), if_neg (by omega)]; rfl
      · exact funext fun k => if_neg (by omega)
      · exact funext fun k => if_neg (by omega)
      · funext k
        show (if i = h.1 then (if k < N then some (h.1 + 1 + k) else none) else if h.1 ≤ i then none else h.2.2.2.2.2 i k) = _
        rw [if_neg (by omega), if_neg (by omega)]; rfl
    · rw [List.map_singleton, hq]
  · refine List.map_congr_left fun j hj => ?_
    have hj : j < N := List.mem_range.mp hj
    exact Prod.ext (hr j hj) rfl
theorem hwf_newM {h : PH} {t ti N K : Nat} (wf : hwf h) : hwf (newM h t ti N K) := by
  intro i k r hr
  have e : hR (newM h t ti N K) i k = if i = h.1 then (if k < N then some (h.1 + 1 + k) else none) else if h.1 ≤ i then none else hR h i k := rfl
  rw [e] at hr
  show r < h.1 + 1 + N
  by_cases h1 : i = h.1
  · rw [if_pos h1] at hr
    by_cases h2 : k < N
    · rw [if_pos h2] at hr; cases hr; omega
    · rw [if_neg h2] at hr; cases hr
  · rw [if_neg h1] at hr
    by_cases h2 : h.1 ≤ i
    · rw [if_pos h2] at hr; cases hr
    · rw [if_neg h2] at hr
      have := wf i k r hr
      have h3 : hn h = h.1 := rfl
      omega
section JM7
variable {M : JM} {d pc : Nat} {ls : List (Option Value)} {st : List Value} {h h1 : PH} {o : Option Value} {h' : PH}
theorem j_newM {t ti : Nat} {ty : FieldType} {x y : Int32} {N K idx : Nat} (hd : decode M.2.1 pc = .ok (.multianewarray idx 2, 4)) (hty : (ty = .long ∧ t = 24 ∧ ti = 22) ∨ (ty = .int ∧ t = 25 ∧ ti = 20)) (hcl : Cond.classLink M.1.cls idx ("[" ++ (FieldType.array ty).toString) ∈ gtbl) (hx : ¬ x < 0) (hy : ¬ y < 0) (hN : x.toNatClampNeg = N) (hK : y.toNatClampNeg = K) (hb : N ≤ 60000) (hb2 : K ≤ 60000) (hV : VA (hn h) ls st) (k : J M d (pc + 4) ls (.ref (hn h) :: st) (newM h t ti N K) o h') : J M d pc ls (.int y :: .int x :: st) h o h' := by
  obtain ⟨⟨k1, k2⟩, k⟩ := k
  have k1' : hn h + 1 + N ≤ hn h' := k1
  have k2' : hs h + (N + N * K) ≤ hs h' := k2
  refine ⟨⟨by omega, by omega⟩, fun Γ p l e R s m args below meth c A Q H locs cells slots ad lsr C WH S L c1 c2 hK' => ?_⟩
  have main : ∀ (zt : Nat) (zf : vp_A) (cy : ClassId), zt = ti → wcell Γ ad (newM h t ti N K) (hn h + 1) = wcell Γ ad (newM h t ti N K) (hn h + 1) → s.vm.findClass (FieldType.array ty).toString = some cy → va_AOA ty s → Cond.arrayClass ty ∈ gtbl → (∀ j, j < N → ∀ ad1 : Nat → Nat, wcell Γ ad1 (newM h t ti N K) (hn h + 1 + j) = .inl (cy, zf)) → (∀ c : ClassId, Jvm.Free.Multi.innerC c K (defaultValue ty) = vp_cell c zf) → fits ty (defaultValue ty) = true → (defaultValue ty).isDefault = true → K * componentBytes ty ≤ 536870912 → (tysG Γ)[if t = 24 then 4 else 5]? = some (Γ.2.1 t, .array ty) → W p l e R s m args below meth c H locs cells slots Q (F0 m pc lsr ((.int y :: .int x :: st : List Value).map (tr Γ ad))) := by
    intro zt zf cy _ _ hcy hAO hac hin hz hdf hdd hbt hty2
    have wP : va_P Γ.1 cls (wsG Γ ad h ++ va_pl [] fun _ => .inl (cy, zf)) H := by rw [show va_pl [] (fun _ => (.inl (cy, zf) : va_E)) = [] from rfl, List.append_nil]; exact WH.1
    have wD : va_D A (wsG Γ ad h ++ va_pl [] fun _ => .inl (cy, zf)) := by rw [show va_pl [] (fun _ => (.inl (cy, zf) : va_E)) = [] from rfl, List.append_nil]; exact WH.2.1
    refine va_mna (L := []) (f := fun _ => .inl (cy, zf)) (ty := ty) (cy := cy) (z := zf) C.1 C.2.1 C.2.2.2.1 (C.2.2.2.2.1 _ hcl) hAO (C.2.2.2.2.1 _ hac) hcy C.2.2.2.2.2.1.1 wP wD S C.2.2.2.2.2.2.2.2.2.1 hx hy hN hK (by omega) hbt (by omega) hdf hdd (by omega) (by omega) hz hd (fun q r cA H1 hinj _ ka a b cS => ?_)
    have ecA : cA = Γ.2.1 t := by
      have h1 : s.vm.findClass ("[" ++ (FieldType.array ty).toString) = some cA := (ka.2 6 (cA, .array ty) rfl).2
      have h2 : s.vm.findClass ("[" ++ (FieldType.array ty).toString) = some (Γ.2.1 t) := (C.2.2.2.2.2.1.1.2 _ (Γ.2.1 t, .array ty) hty2).2
      exact Option.some.inj (h1.symm.trans h2)
    have ht23 : 23 ≤ t := by rcases hty with ⟨-, h, -⟩ | ⟨-, h, -⟩ <;> omega
    generalize hA1 : (fun i => if i = hn h then q else if hn h < i ∧ i < hn h + 1 + N then r (i - (hn h + 1)) else ad i) = ad1
    have hws := wsG_newM (Γ := Γ) (ad := ad) (h := h) (t := t) (ti := ti) (N := N) (K := K) (q := q) (r := r) WH.2.2
    rw [hA1] at hws
    have hE : ∀ i, i < hn h → ad1 i = ad i := fun i hi => by
      rw [← hA1]
      show (if i = hn h then q else if hn h < i ∧ i < hn h + 1 + N then r (i - (hn h + 1)) else ad i) = ad i
      rw [if_neg (by omega), if_neg (by omega)]
    have hr : ∀ j, j < N → ad1 (hn h + 1 + j) = r j := fun j hj => by
      rw [← hA1]
      show (if hn h + 1 + j = hn h then q else if hn h < hn h + 1 + j ∧ hn h + 1 + j < hn h + 1 + N then r (hn h + 1 + j - (hn h + 1)) else ad _) = r j
      rw [if_neg (by omega), if_pos (by omega)]
      congr 1
      omega
    have eouter : wcell Γ ad1 (newM h t ti N K) (hn h) = .inl (cA, N, .inr (.inr (.inr (.inr (fun i => if i < N then some (r i) else none))))) := by
      rw [wcell_ref (h := newM h t ti N K) (i := hn h) (t := t) (n := N) (if_pos rfl) ht23, ecA]
      congr 7
      funext i
      have : hR (newM h t ti N K) (hn h) i = if i < N then some (hn h + 1 + i) else none := if_pos rfl
      rw [this]
      by_cases hi : i < N
      · rw [if_pos hi, if_pos hi]
        exact congrArg some (hr i hi)
      · rw [if_neg hi, if_neg hi]; rfl
    have epl : va_pl ([] ++ (List.range N).map r) (vr_up (fun _ => (.inl (cy, zf) : va_E)) ((List.range N).map r) (.inl (cy, zf))) = (List.range N).map (fun j => (r j, wcell Γ ad1 (newM h t ti N K) (hn h + 1 + j))) := by
      rw [List.nil_append]
      unfold va_pl
      rw [List.map_map]
      refine List.map_congr_left fun j hj => ?_
      have hj' : j < N := List.mem_range.mp hj
      have e2 : vr_up (fun _ => (.inl (cy, zf) : va_E)) ((List.range N).map r) (.inl (cy, zf)) (r j) = .inl (cy, zf) := vr_up_in (List.mem_map.mpr ⟨j, hj, rfl⟩)
      simp only [Function.comp]
      rw [e2, hin j hj' ad1]
    rw [epl, ← eouter, ← hws] at a b
    have e1 : cells + 1 + N + (hn h' - hn (newM h t ti N K)) = cells + (hn h' - hn h) := by show cells + 1 + N + (hn h' - (hn h + 1 + N)) = _; omega
    have e2 : slots + N + N * K + (hs h' - hs (newM h t ti N K)) = slots + (hs h' - hs h) := by show slots + N + N * K + (hs h' - (hs h + (N + N * K))) = _; omega
    have := k Γ p l e R s m args below meth c A Q H1 locs (cells + 1 + N) (slots + N + N * K) ad1 lsr C ⟨a, b, hwf_newM WH.2.2⟩ cS (L.ad hE hV.1) (by omega) (by omega) (fun H2 locs2 ad2 pc2 ls2 r1 r2 r3 r4 => by
      rw [e1, e2]
      refine hK' H2 locs2 ad2 pc2 ls2 r1 (fun i hi => ?_) r3 r4
      refine (r2 i (by show i < hn h + 1 + N ∨ hn h' ≤ i; omega)).trans ?_
      rw [← hA1]
      show (if i = hn h then q else if hn h < i ∧ i < hn h + 1 + N then r (i - (hn h + 1)) else ad i) = ad i
      rw [if_neg (by omega), if_neg (by omega)])
    rw [List.map_cons, map_ad hE hV.2] at this
    rw [show tr Γ ad1 (.ref (hn h)) = .ref q by rw [← hA1]; simp [tr]] at this
    exact this
  have hinner : ∀ j, j < N → hT (newM h t ti N K) (hn h + 1 + j) = (ti, K) := fun j hj => by
    have h0 : hn h = h.1 := rfl
    show (if hn h + 1 + j = h.1 then (t, N) else if h.1 < hn h + 1 + j ∧ hn h + 1 + j < h.1 + 1 + N then (ti, K) else h.2.2.1 _) = _
    rw [if_neg (by omega), if_pos (by omega)]
  have h0 : hn h = h.1 := rfl
  rcases hty with ⟨rfl, rfl, rfl⟩ | ⟨rfl, rfl, rfl⟩
  · refine main 22 (K, .inr (.inl fun _ => 0)) (Γ.2.1 22) rfl rfl (C.2.2.2.2.2.1.1.2 2 (Γ.2.1 22, .long) rfl).2 C.2.2.2.2.2.1.2.2.2.1 ac_long (fun j hj ad1 => ?_) (fun c => arrV_new c K (.long 0)) rfl rfl (by simp [componentBytes]; omega) rfl
    rw [wcell_lon (hinner j hj)]
    congr 4
    congr 1
    exact funext fun _ => if_pos (by omega)
  · refine main 20 (K, .inl fun _ => 0) (Γ.2.1 20) rfl rfl (C.2.2.2.2.2.1.1.2 0 (Γ.2.1 20, .int) rfl).2 C.2.2.2.2.2.1.2.2.2.2 ac_int (fun j hj ad1 => ?_) (fun c => arrV_new c K (.int 0)) rfl rfl (by simp [componentBytes]; omega) rfl
    rw [wcell_int (hinner j hj)]
    congr 3
    congr 1
    exact funext fun _ => if_pos (by omega)
/-! texts: their length, their letters -/
theorem j_sval {idx i : Nat} (hd : decode M.2.1 pc = .ok (.getfield idx, 3)) (hl : Cond.fieldLink M.1.cls idx "java/lang/String" "value" "[B" ∈ gtbl) (hi : i < 12) (k : J M d (pc + 3) ls (.retAddr (18 + i) :: st) h o h') : J M d pc ls (.retAddr (6 + i) :: st) h o h' :=
  J_st (fun Γ p l e R s m args below meth c A Q H locs cells slots ad lsr C WH S L kk => vk_getf C.1 C.2.1 (C.2.2.2.2.2.2.1.2.2.1 i hi).2.2.2.1 S C.2.2.2.1 (C.2.2.2.2.1 _ hl) (fun x z => z) hd kk) k
theorem j_scod {idx i : Nat} (hd : decode M.2.1 pc = .ok (.getfield idx, 3)) (hl : Cond.fieldLink M.1.cls idx "java/lang/String" "coder" "B" ∈ gtbl) (hi : i < 12) (k : J M d (pc + 3) ls (.int 0 :: st) h o h') : J M d pc ls (.retAddr (6 + i) :: st) h o h' :=
  J_st (fun Γ p l e R s m args below meth c A Q H locs cells slots ad lsr C WH S L kk => vk_getf C.1 C.2.1 (C.2.2.2.2.2.2.1.2.2.1 i hi).2.2.1 S C.2.2.2.1 (C.2.2.2.2.1 _ hl) (fun x z => z) hd kk) k
theorem j_slen {i : Nat} (hd : decode M.2.1 pc = .ok (.arraylength, 1)) (hi : i < 12) (k : J M d (pc + 1) ls (.int (Int32.ofNat (sbyt.getD i []).length) :: st) h o h') : J M d pc ls (.retAddr (18 + i) :: st) h o h' :=
  J_st (fun Γ p l e R s m args below meth c A Q H locs cells slots ad lsr C WH S L kk => by
    obtain ⟨cell, g1, g2, g3, g4, g5, g6, g7⟩ := (C.2.2.2.2.2.2.1.2.2.1 i hi).2.2.2.2
    exact W.alen (n := Int32.ofNat (sbyt.getD i []).length) C.1 C.2.1 (by rw [S.2.1 _ (Array.getElem?_eq_some_iff.mp g1).1 g7]; exact g1) g2 g5 rfl rfl hd kk) k
theorem j_sbld {i : Nat} {x : Int32} (hd : decode M.2.1 pc = .ok (.baload, 1)) (hi : i < 12) (hin : vp_in x (sbyt.getD i []).length) (k : J M d (pc + 1) ls (.int ((sbyt.getD i []).getD x.toNatClampNeg 0) :: st) h o h') : J M d pc ls (.int x :: .retAddr (18 + i) :: st) h o h' :=
  J_st (fun Γ p l e R s m args below meth c A Q H locs cells slots ad lsr C WH S L kk => va_tb C.1 C.2.1 (C.2.2.2.2.2.2.1.2.2.1 i hi).2.2.2.2 S hin rfl hd kk) k
theorem j_compact {idx : Nat} (hd : decode M.2.1 pc = .ok (.getstatic idx, 3)) (hl : Cond.fieldLink M.1.cls idx "java/lang/String" "COMPACT_STRINGS" "Z" ∈ gtbl) (k : J M d (pc + 3) ls (.int 1 :: st) h o h') : J M d pc ls st h o h' :=
  J_st (fun Γ p l e R s m args below meth c A Q H locs cells slots ad lsr C WH S L kk => va_gets C.1 C.2.1 C.2.2.2.2.2.2.1.2.2.2.1 S C.2.2.2.1 (C.2.2.2.2.1 _ hl) (fun x z => z) hd kk) k
theorem j_sioobe {idx : Nat} (hd : decode M.2.1 pc = .ok (.getstatic idx, 3)) (hl : Cond.fieldLink M.1.cls idx "jdk/internal/util/Preconditions" "SIOOBE_FORMATTER" "Ljava/util/function/BiFunction;" ∈ gtbl) (k1 : J M d (pc + 3) ls (.null :: st) h o h') (k2 : J M d (pc + 3) ls (.retAddr 30 :: st) h o h') : J M d pc ls st h o h' :=
  ⟨k1.1, fun Γ p l e R s m args below meth c A Q H locs cells slots ad lsr C WH S L c1 c2 hK => by
    rcases C.2.2.2.2.2.2.1.2.2.2.2 with z | z
    · exact va_gets C.1 C.2.1 z S C.2.2.2.1 (C.2.2.2.2.1 _ hl) (fun x z => z) hd (k1.2 Γ p l e R s m args below meth c A Q H locs cells slots ad lsr C WH S L c1 c2 hK)
    · exact va_gets C.1 C.2.1 z S C.2.2.2.1 (C.2.2.2.2.1 _ hl) (fun x z => z) hd (k2.2 Γ p l e R s m args below meth c A Q H locs cells slots ad lsr C WH S L c1 c2 hK)⟩
theorem j_i2c {x : Int32} (hd : decode M.2.1 pc = .ok (.i2c, 1)) (k : J M d (pc + 1) ls (.int ((x.toUInt32 % 65536).toInt32) :: st) h o h') : J M d pc ls (.int x :: st) h o h' :=
  J_st (fun Γ p l e R s m args below meth c A Q H locs cells slots ad lsr C WH S L kk => lv_i2c C.1 C.2.1 hd rfl kk) k
section JX7
variable {st0 : List Value}
/-- what lies behind a call -/
theorem J_callS {My : JM} {ret : Option FieldType} {ov : Option Value} {as : List Value} (hM : JMt My ret d as h ov h1) (hE : hn h1 = hn h ∨ VA (hn h) ls st)
    (hW : ∀ (Γ : GA) (p : Program) (l : Launch) (e : Env) (R : Room) (s : State) (m : MethodId) (args : Array Value) (below : List Frame) (meth : Method) (c : Code) (A : Nat → Prop) (Q : State → Prop) (H : Heap) (locs : List Loc) (cells slots : Nat) (ad : Nat → Nat) (lsr : Array Slot), JCx Γ M (d + 1) p R s m args meth c A → WW Γ A ad h H → va_S A s.heap H locs → lsr.size = M.2.2 →
      (∀ U : State, U.heap = H → s.WarmedH U.vm → PcJ Γ ad H.size h as (as.map (tr Γ ad)).toArray U) → cells + (hn h1 - hn h) ≤ R.cells → slots + (hs h1 - hs h) ≤ R.slots →
      va_Run p l e R s m args below meth c H locs cells slots (hn h1 - hn h) (hs h1 - hs h) (F0 m pc lsr (st0.map (tr Γ ad))) (st.map (tr Γ ad)) (QcJ Γ ad H.size h ov h1 (as.map (tr Γ ad)).toArray) (va_A (wsG Γ ad h) H.size))
    (k : J M (d + 1) (pc + 3) ls (ov.toList ++ st) h1 o h') : J M (d + 1) pc ls st0 h o h' := by
  obtain ⟨m1, m2⟩ := hM.1
  obtain ⟨k1, k2⟩ := k.1
  refine ⟨⟨Nat.le_trans m1 k1, Nat.le_trans m2 k2⟩, fun Γ p l e R s m args below meth c A Q H locs cells slots ad lsr hC hWW hS hL c1 c2 hK => ?_⟩
  have hfr := va_A_in hWW.2.1 hS hC.2.2.2.2.2.2.2.2.2.1
  refine W_call (hW Γ p l e R s m args below meth c A Q H locs cells slots ad lsr hC hWW hS hL.1 (fun U hU hWm => ?_) (by omega) (by omega)) hS hfr (fun ad1 H1 locs1 g1 g2 g3 => ?_)
  · exact ⟨rfl, by rw [hU], ⟨by rw [hU]; exact hWW.1, hWW.2.1.weaken (fun _ _ _ _ => trivial), hWW.2.2⟩, KF.move hWm hC.2.2.2.2.2.1, CF.move hC.2.2.2.2.2.2.1 hWm (fun q z1 z2 => by rw [hU]; exact hS.2.1 q z1 z2) hfr⟩
  · have hEa : (∀ i, i < hn h → ad1 i = ad i) := fun i hi => g1 i (Or.inl hi)
    have key : LR Γ ad1 M.2.2 ls lsr ∧ (st.map (tr Γ ad1)) = st.map (tr Γ ad) := by
      rcases hE with hE | hE
      · have : ad1 = ad := by
          funext i
          rcases Nat.lt_or_ge i (hn h) with z | z
          · exact g1 i (Or.inl z)
          · exact g1 i (Or.inr (by omega))
        subst this
        exact ⟨hL, rfl⟩
      · exact ⟨hL.ad hEa hE.1, map_ad hEa hE.2⟩
    have e1 : cells + (hn h1 - hn h) + (hn h' - hn h1) = cells + (hn h' - hn h) := by omega
    have e2 : slots + (hs h1 - hs h) + (hs h' - hs h1) = slots + (hs h' - hs h) := by omega
    have := k.2 Γ p l e R s m args below meth c A Q H1 locs1 (cells + (hn h1 - hn h)) (slots + (hs h1 - hs h)) ad1 lsr hC g2 g3 key.1 (by omega) (by omega) (fun H2 locs2 ad2 pc2 ls2 r1 r2 r3 r4 => by
      rw [e1, e2]
      exact hK H2 locs2 ad2 pc2 ls2 r1 (fun i hi => (r2 i (by omega)).trans (g1 i (by omega))) r3 r4)
    rw [List.map_append, key.2] at this
    rw [show (ov.map (tr Γ ad1)).toList = ov.toList.map (tr Γ ad1) by cases ov <;> rfl]
    exact this
end JX7
/-- a method of a text -/
theorem j_callT {My : JM} {ret : Option FieldType} {ov : Option Value} {as : List Value} {n idx i : Nat} {st0 : List Value} (hd : decode M.2.1 pc = .ok (.invokevirtual idx, 3)) (hl : MLk M.1.cls idx My.1) (hm : MI My.1 My.2.1 My.2.2 ret n) (hv : MV My.1) (hM : JMt My ret d (.retAddr (6 + i) :: as) h ov h1) (hn' : as.length = n) (hst : (st.map fun v => v.category).sum ≤ 8) (hs0 : st0 = as.reverse ++ .retAddr (6 + i) :: st) (hi : i < 12) (hcl : "java/lang/String" = My.1.cls) (hE : hn h1 = hn h ∨ VA (hn h) ls st) (k : J M (d + 1) (pc + 3) ls (ov.toList ++ st) h1 o h') : J M (d + 1) pc ls st0 h o h' := by
  subst hs0
  refine J_callS hM hE (fun Γ p l e R s m args below meth c A Q H locs cells slots ad lsr C WH S hsz hPc c1 c2 => ?_) k
  obtain ⟨cell, g1, g2, g3, g4⟩ := (C.2.2.2.2.2.2.1.2.2.1 i hi).2.1.kept S.2.1
  have hrec : ∃ cell : Cell, H[Γ.2.2.1 (6 + i)]? = some cell ∧ cell.vm.isStatics = false ∧ s.vm.findClass My.1.cls = some cell.cls := ⟨cell, g1, g2, by rw [← hcl]; exact g3⟩
  have hst' : ((as.reverse ++ .retAddr (6 + i) :: st).map (tr Γ ad)) = (as.map (tr Γ ad)).reverse ++ .ref (Γ.2.2.1 (6 + i)) :: st.map (tr Γ ad) := by simp [tr]
  have hroom : 2 * (F0 m pc lsr (st.map (tr Γ ad))).monitorRoom + ((st.map (tr Γ ad)).map fun v => v.category).sum ≤ 8 := lv_room (by rw [cat_ad]; exact hst)
  rcases hl with hl | ⟨host, hl⟩
  · exact va_runV (fixJ C) (hM.2 l Γ ad H.size) (cwV n C.2.2.2.2.1 (fun w hw => by
      rcases List.mem_append.mp hw with hw | hw
      · have : w ∈ gtbl := by
          simp only [List.mem_cons, List.not_mem_nil, or_false] at hw
          rcases hw with rfl | rfl | rfl | rfl
          · exact hl
          · exact hv.1
          · exact hv.2
          · exact hm.2.1
        exact ⟨this, good_of_word (gtbl_in this).2⟩
      · exact gtbl_code hm.1 w hw) rfl rfl rfl ⟨rfl, hm.2.2.1.1, hm.2.2.1.2.1, hm.2.2.1.2.2⟩ (roomJ_ok C hm.2.2.2.2)) ⟨blindJ, hrec, hPc⟩ rfl (by rw [List.length_map]; exact hn') hsz (by rw [hst']) hroom hd ⟨c1, c2⟩
  · exact va_runVN (C := My.1.cls) (fixJ C) (hM.2 l Γ ad H.size) ⟨va_cnB n C.2.2.2.2.1 (gtbl_code hm.1) rfl rfl rfl (C.2.2.2.2.2.1.2.1 _ hl) (C.2.2.2.2.1 _ hm.2.1) hm.2.2.1 (roomJ_ok C hm.2.2.2.2), C.2.2.2.2.1 _ hv.1, C.2.2.2.2.1 _ hv.2⟩ ⟨blindJ, hrec, hPc⟩ rfl (by rw [List.length_map]; exact hn') hsz (by rw [hst']) hroom hd ⟨c1, c2⟩
end JM7
