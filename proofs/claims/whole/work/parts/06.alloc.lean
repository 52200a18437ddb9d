theorem oi_inst : Cond.instanceMethod Lib.objectInit ∈ gtbl := gm (i := 110) (by decide +kernel) rfl
theorem oi_code : Cond.code Lib.objectInit ⟨#[0xb1]⟩ 1 none ∈ gtbl := gm (i := 111) (by decide +kernel) rfl
theorem mst_max : Cond.static Lib.Math.max.name ∈ gtbl := gm (i := 315) (by decide +kernel) rfl
theorem mco_max : Cond.code Lib.Math.max.name Lib.Math.max.code 2 (some .int) ∈ gtbl := gm (i := 316) (by decide +kernel) rfl
theorem mst_min : Cond.static Lib.Math.min.name ∈ gtbl := gm (i := 318) (by decide +kernel) rfl
theorem mco_min : Cond.code Lib.Math.min.name Lib.Math.min.code 2 (some .int) ∈ gtbl := gm (i := 319) (by decide +kernel) rfl
theorem mst_abs : Cond.static Lib.Math.abs.name ∈ gtbl := gm (i := 827) (by decide +kernel) rfl
theorem mco_abs : Cond.code Lib.Math.abs.name Lib.Math.abs.code 1 (some .int) ∈ gtbl := gm (i := 828) (by decide +kernel) rfl
theorem acp_n : Cond.native arraycopyName ∈ gtbl := gm (i := 372) (by decide +kernel) rfl
theorem acp_s : Cond.static arraycopyName ∈ gtbl := gm (i := 371) (by decide +kernel) rfl
theorem acp_l : Cond.methodLink RX7 116 arraycopyName ∈ gtbl := gm (i := 370) (by decide +kernel) rfl
/-- after arraycopy of longs -/
def cpyL (h : PH) (i0 i1 sp dp n : Nat) : PH := (h.1, h.2.1, h.2.2.1, h.2.2.2.1, (fun a k => if a = i1 ∧ dp ≤ k ∧ k < dp + n then h.2.2.2.2.1 i0 (sp + (k - dp)) else h.2.2.2.2.1 a k), h.2.2.2.2.2)
theorem hG_cpyL (h : PH) (i0 i1 sp dp n : Nat) : hG (cpyL h i0 i1 sp dp n) = hG h := rfl
theorem hL_cpyL (h : PH) (i0 i1 sp dp n a k : Nat) : hL (cpyL h i0 i1 sp dp n) a k = if a = i1 ∧ dp ≤ k ∧ k < dp + n then hL h i0 (sp + (k - dp)) else hL h a k := rfl
theorem dflt_ok : ∀ t, t < 9 → ∀ j, j < fN t → defaultValue (fT t j) = if rty (fT t j) then .null else .int 0 := by decide +kernel
/-- a new array of N arrays of length K -/
def newM (h : PH) (t ti N K : Nat) : PH := (h.1 + 1 + N, h.2.1 + (N + N * K), fun i => if i = h.1 then (t, N) else if h.1 < i ∧ i < h.1 + 1 + N then (ti, K) else h.2.2.1 i, fun i k => if h.1 ≤ i then 0 else h.2.2.2.1 i k, fun i k => if h.1 ≤ i then 0 else h.2.2.2.2.1 i k, fun i k => if i = h.1 then (if k < N then some (h.1 + 1 + k) else none) else if h.1 ≤ i then none else h.2.2.2.2.2 i k)
theorem wcell_old {Γ : GA} {ad ad1 : Nat → Nat} {h h1 : PH} {j : Nat} (hj : j < hn h) (w : hwf h) (hE : ∀ i, i < hn h → ad1 i = ad i) (e1 : hT h1 j = hT h j) (e2 : hI h1 j = hI h j) (e3 : hL h1 j = hL h j) (e4 : hR h1 j = hR h j) : wcell Γ ad1 h1 j = wcell Γ ad h j := by
  rw [wcell_eq e1 e2 e3 e4]
  have er : ∀ k, (hR h j k).map ad1 = (hR h j k).map ad := fun k => by
    cases hr : hR h j k with
    | none => rfl
    | some r => exact congrArg some (hE r (w j k r hr))
  have ef : ∀ c, fval ad1 h j c = fval ad h j c := fun c => by funext k; simp [fval, er]
  simp [wcell, er, ef]
theorem wsG_new {Γ : GA} {ad : Nat → Nat} {h : PH} {t n w q : Nat} (wf : hwf h) : wsG Γ (fun i => if i = hn h then q else ad i) (newC h t n w) = wsG Γ ad h ++ [(q, wcell Γ ad (newC h t n w) (hn h))] := by
  have hE : ∀ i, i < hn h → (if i = hn h then q else ad i) = ad i := fun i hi => if_neg (Nat.ne_of_lt hi)
  unfold wsG
  rw [show hn (newC h t n w) = hn h + 1 from rfl, List.range_succ, List.map_append]
  congr 1
  · refine List.map_congr_left fun i hi => ?_
    have hi : i < hn h := List.mem_range.mp hi
    have hne : ¬ i = h.1 := Nat.ne_of_lt hi
    exact Prod.ext (hE i hi) (wcell_old (h1 := newC h t n w) hi wf hE (if_neg hne) (funext fun k => if_neg hne) (funext fun k => if_neg hne) (funext fun k => if_neg hne))
  · rw [List.map_singleton]
    refine congrArg (fun z => [z]) (Prod.ext (if_pos rfl) ?_)
    show wcell Γ (fun i => if i = hn h then q else ad i) (newC h t n w) (hn h) = wcell Γ ad (newC h t n w) (hn h)
    have er : ∀ k, hR (newC h t n w) (hn h) k = none := fun k => if_pos rfl
    have ef : ∀ c, fval (fun i => if i = hn h then q else ad i) (newC h t n w) (hn h) c = fval ad (newC h t n w) (hn h) c := fun c => by funext k; simp [fval, er]
    simp [wcell, er, ef]
theorem hwf_new {h : PH} {t n w : Nat} (wf : hwf h) : hwf (newC h t n w) := by
  intro i k r hr
  by_cases hi : i = h.1
  · have : hR (newC h t n w) i k = none := if_pos hi
    rw [this] at hr; cases hr
  · have : hR (newC h t n w) i k = hR h i k := if_neg hi
    rw [this] at hr
    exact Nat.lt_succ_of_lt (wf i k r hr)
theorem J_hpl {M : JM} {d pc : Nat} {ls : List (Option Value)} {st : List Value} {h h1 : PH} {o : Option Value} {h' : PH} {pc' : Nat} {st' : List Value} (z1 : hn h1 = hn h) (z2 : hs h1 = hs h)
    (hW : ∀ (Γ : GA) (p : Program) (l : Launch) (e : Env) (R : Room) (s : State) (m : MethodId) (args : Array Value) (below : List Frame) (meth : Method) (c : Code) (A : Nat → Prop) (Q : State → Prop) (H : Heap) (locs : List Loc) (cells slots : Nat) (ad : Nat → Nat) (lsr : Array Slot), JCx Γ M d p R s m args meth c A → WW Γ A ad h H → va_S A s.heap H locs → LR Γ ad M.2.2 ls lsr → (∀ (H1 : Heap) (locs1 : List Loc), WW Γ A ad h1 H1 → va_S A s.heap H1 locs1 → W p l e R s m args below meth c H1 locs1 cells slots Q (F0 m pc' lsr (st'.map (tr Γ ad)))) → W p l e R s m args below meth c H locs cells slots Q (F0 m pc lsr (st.map (tr Γ ad))))
    (k : J M d pc' ls st' h1 o h') : J M d pc ls st h o h' := by
  refine ⟨by rw [← z1, ← z2]; exact k.1, fun Γ p l e R s m args below meth c A Q H locs cells slots ad lsr hC hWW hS hL h1 h2 hK => hW Γ p l e R s m args below meth c A Q H locs cells slots ad lsr hC hWW hS hL (fun H1 locs1 a b => ?_)⟩
  refine k.2 Γ p l e R s m args below meth c A Q H1 locs1 cells slots ad lsr hC a b hL (by rw [z1]; exact h1) (by rw [z2]; exact h2) (fun H2 locs2 ad2 pc2 ls2 r1 r2 r3 r4 => ?_)
  have := hK H2 locs2 ad2 pc2 ls2 r1 (fun i hi => r2 i (by rw [z1]; exact hi)) r3 r4
  rw [z1, z2]
  exact this
section JA
variable {M : JM} {d pc : Nat} {ls : List (Option Value)} {st : List Value} {h h1 : PH} {o : Option Value} {h' : PH}
theorem J_al {t n w pc' : Nat} {st0 : List Value} (hV : VA (hn h) ls st)
    (hW : ∀ (Γ : GA) (p : Program) (l : Launch) (e : Env) (R : Room) (s : State) (m : MethodId) (args : Array Value) (below : List Frame) (meth : Method) (c : Code) (A : Nat → Prop) (Q : State → Prop) (H : Heap) (locs : List Loc) (cells slots : Nat) (ad : Nat → Nat) (lsr : Array Slot), JCx Γ M d p R s m args meth c A → WW Γ A ad h H → va_S A s.heap H locs → cells + 1 ≤ R.cells → slots + w ≤ R.slots →
      (∀ (q : Nat) (H1 : Heap), va_P Γ.1 cls (wsG Γ ad h ++ [(q, wcell Γ ad (newC h t n w) (hn h))]) H1 → va_D A (wsG Γ ad h ++ [(q, wcell Γ ad (newC h t n w) (hn h))]) → va_S A s.heap H1 locs → W p l e R s m args below meth c H1 locs (cells + 1) (slots + w) Q (F0 m pc' lsr (.ref q :: st.map (tr Γ ad)))) → W p l e R s m args below meth c H locs cells slots Q (F0 m pc lsr (st0.map (tr Γ ad))))
    (k : J M d pc' ls (.ref (hn h) :: st) (newC h t n w) o h') : J M d pc ls st0 h o h' := by
  obtain ⟨⟨k1, k2⟩, k⟩ := k
  have k1' : hn h + 1 ≤ hn h' := k1
  have k2' : hs h + w ≤ hs h' := k2
  refine ⟨⟨by omega, by omega⟩, fun Γ p l e R s m args below meth c A Q H locs cells slots ad lsr hC hWW hS hL c1 c2 hK => ?_⟩
  refine hW Γ p l e R s m args below meth c A Q H locs cells slots ad lsr hC hWW hS (by omega) (by omega) (fun q H1 a b cS => ?_)
  have hE : ∀ i, i < hn h → (if i = hn h then q else ad i) = ad i := fun i hi => if_neg (Nat.ne_of_lt hi)
  have e1 : cells + 1 + (hn h' - hn (newC h t n w)) = cells + (hn h' - hn h) := by show cells + 1 + (hn h' - (hn h + 1)) = _; omega
  have e2 : slots + w + (hs h' - hs (newC h t n w)) = slots + (hs h' - hs h) := by show slots + w + (hs h' - (hs h + w)) = _; omega
  have := k Γ p l e R s m args below meth c A Q H1 locs (cells + 1) (slots + w) (fun i => if i = hn h then q else ad i) lsr hC ⟨by rw [wsG_new hWW.2.2]; exact a, by rw [wsG_new hWW.2.2]; exact b, hwf_new hWW.2.2⟩ cS (hL.ad hE hV.1) (by omega) (by omega) (fun H2 locs2 ad2 pc2 ls2 r1 r2 r3 r4 => by
    rw [e1, e2]
    refine hK H2 locs2 ad2 pc2 ls2 r1 (fun i hi => ?_) r3 r4
    have hne : i ≠ hn h := by omega
    refine (r2 i (by show i < hn h + 1 ∨ hn h' ≤ i; omega)).trans ?_
    exact if_neg hne)
  rw [List.map_cons, map_ad hE hV.2] at this
  rw [show tr Γ (fun i => if i = hn h then q else ad i) (.ref (hn h)) = .ref q by simp [tr]] at this
  exact this
theorem j_new {idx t : Nat} (hd : decode M.2.1 pc = .ok (.new idx, 3)) (ht : t < 9) (hcl : Cond.classLink M.1.cls idx (clsR t) ∈ gtbl) (hinst : Cond.instantiable (clsR t) (fN t) ∈ gtbl) (hini : Cond.initialized (clsR t) ∈ gtbl) (hV : VA (hn h) ls st) (k : J M d (pc + 3) ls (.ref (hn h) :: st) (newC h t (fN t) (fN t)) o h') : J M d pc ls st h o h' := by
  refine J_al hV (fun Γ p l e R s m args below meth c A Q H locs cells slots ad lsr C WH S c1 c2 kk => ?_) k
  obtain ⟨f1, f2, f3, f4⟩ := FC_ok t ht
  have hT' : hT (newC h t (fN t) (fN t)) (hn h) = (t, fN t) := if_pos rfl
  have ew := wcell_obj (Γ := Γ) (ad := ad) hT' ht
  refine va_new C.1 C.2.1 C.2.2.2.2.1 f2 (fT t) f3 C.2.2.2.1 (C.2.2.2.2.1 _ hcl) (C.2.2.2.2.1 _ hinst) (C.2.2.2.2.1 _ hini) C.2.2.2.2.2.1.1 WH.1 WH.2.1 S C.2.2.2.2.2.2.2.2.2.1 f1 (fs := (List.range (fN t)).map (fval ad (newC h t (fN t) (fN t)) (hn h) t)) (fun j hj => ?_) c1 c2 hd (fun q H1 a b cS => by rw [ew] at kk; exact kk q H1 a b cS)
  rw [dflt_ok t ht j hj]
  have er : hR (newC h t (fN t) (fN t)) (hn h) j = none := if_pos rfl
  have ei : hI (newC h t (fN t) (fN t)) (hn h) j = 0 := if_pos rfl
  have e0 : vp_V ((List.range (fN t)).map (fval ad (newC h t (fN t) (fN t)) (hn h) t)) j = fval ad (newC h t (fN t) (fN t)) (hn h) t j := by simp [vp_V, hj]
  rw [e0, fval, er, ei]
  rfl
theorem nn_bytes {ty : FieldType} (hty : ty = .int ∨ ty = .boolean ∨ ty = .long) {N : Nat} (hN : N ≤ 60000000) : N * componentBytes ty ≤ 536870912 := by
  rcases hty with rfl | rfl | rfl <;> simp [componentBytes] <;> omega
theorem j_newI {x : Int32} {N : Nat} (hd : decode M.2.1 pc = .ok (.newarray .int, 2)) (hx : ¬ x < 0) (hN : x.toNatClampNeg = N) (hb : N ≤ 60000000) (hV : VA (hn h) ls st) (k : J M d (pc + 2) ls (.ref (hn h) :: st) (newC h 20 N N) o h') : J M d pc ls (.int x :: st) h o h' := by
  refine J_al hV (fun Γ p l e R s m args below meth c A Q H locs cells slots ad lsr C WH S c1 c2 kk => ?_) k
  have ew := wcell_int (Γ := Γ) (ad := ad) (h := newC h 20 N N) (i := hn h) (n := N) (if_pos rfl)
  refine va_newa (atype := .int) C.1 C.2.1 (C.2.2.2.2.1 _ ac_int) rfl C.2.2.2.2.2.1.1 WH.1 WH.2.1 S C.2.2.2.2.2.2.2.2.2.1 (a0 := (N, .inl fun _ => 0)) (fun cA => rfl) hx hN (nn_bytes (Or.inl rfl) hb) c1 c2 hd (fun q cA H1 ka a b cS => ?_)
  have h1 : s.vm.findClass _ = some cA := (ka.2 6 (cA, .int) rfl).2
  have h2 : s.vm.findClass _ = some (Γ.2.1 20) := (C.2.2.2.2.2.1.1.2 0 (Γ.2.1 20, .int) rfl).2
  cases Option.some.inj (h1.symm.trans h2)
  rw [ew, show hI (newC h 20 N N) (hn h) = fun _ => 0 from funext fun _ => if_pos rfl] at kk
  exact kk q H1 a b cS
theorem j_newZ {x : Int32} {N : Nat} (hd : decode M.2.1 pc = .ok (.newarray .boolean, 2)) (hx : ¬ x < 0) (hN : x.toNatClampNeg = N) (hb : N ≤ 60000000) (hV : VA (hn h) ls st) (k : J M d (pc + 2) ls (.ref (hn h) :: st) (newC h 21 N N) o h') : J M d pc ls (.int x :: st) h o h' := by
  refine J_al hV (fun Γ p l e R s m args below meth c A Q H locs cells slots ad lsr C WH S c1 c2 kk => ?_) k
  have ew := wcell_boo (Γ := Γ) (ad := ad) (h := newC h 21 N N) (i := hn h) (n := N) (if_pos rfl)
  refine va_newa (atype := .boolean) C.1 C.2.1 (C.2.2.2.2.1 _ ac_boolean) rfl C.2.2.2.2.2.1.1 WH.1 WH.2.1 S C.2.2.2.2.2.2.2.2.2.1 (a0 := (N, .inl fun _ => 0)) (fun cA => rfl) hx hN (nn_bytes (Or.inr (Or.inl rfl)) hb) c1 c2 hd (fun q cA H1 ka a b cS => ?_)
  have h1 : s.vm.findClass _ = some cA := (ka.2 6 (cA, .boolean) rfl).2
  have h2 : s.vm.findClass _ = some (Γ.2.1 21) := (C.2.2.2.2.2.1.1.2 1 (Γ.2.1 21, .boolean) rfl).2
  cases Option.some.inj (h1.symm.trans h2)
  rw [ew, show hI (newC h 21 N N) (hn h) = fun _ => 0 from funext fun _ => if_pos rfl] at kk
  exact kk q H1 a b cS
theorem j_newL {x : Int32} {N : Nat} (hd : decode M.2.1 pc = .ok (.newarray .long, 2)) (hx : ¬ x < 0) (hN : x.toNatClampNeg = N) (hb : N ≤ 60000000) (hV : VA (hn h) ls st) (k : J M d (pc + 2) ls (.ref (hn h) :: st) (newC h 22 N N) o h') : J M d pc ls (.int x :: st) h o h' := by
  refine J_al hV (fun Γ p l e R s m args below meth c A Q H locs cells slots ad lsr C WH S c1 c2 kk => ?_) k
  have ew := wcell_lon (Γ := Γ) (ad := ad) (h := newC h 22 N N) (i := hn h) (n := N) (if_pos rfl)
  refine va_newa (atype := .long) C.1 C.2.1 (C.2.2.2.2.1 _ ac_long) rfl C.2.2.2.2.2.1.1 WH.1 WH.2.1 S C.2.2.2.2.2.2.2.2.2.1 (a0 := (N, .inr (.inl fun _ => 0))) (fun cA => rfl) hx hN (nn_bytes (Or.inr (Or.inr rfl)) hb) c1 c2 hd (fun q cA H1 ka a b cS => ?_)
  have h1 : s.vm.findClass _ = some cA := (ka.2 6 (cA, .long) rfl).2
  have h2 : s.vm.findClass _ = some (Γ.2.1 22) := (C.2.2.2.2.2.1.1.2 2 (Γ.2.1 22, .long) rfl).2
  cases Option.some.inj (h1.symm.trans h2)
  rw [ew, show hL (newC h 22 N N) (hn h) = fun _ => 0 from funext fun _ => if_pos rfl] at kk
  exact kk q H1 a b cS
theorem j_newQ {x : Int32} {N idx : Nat} (hd : decode M.2.1 pc = .ok (.anewarray idx, 3)) (hcl : Cond.classLink M.1.cls idx RX4 ∈ gtbl) (hx : ¬ x < 0) (hN : x.toNatClampNeg = N) (hb : N ≤ 60000000) (hV : VA (hn h) ls st) (k : J M d (pc + 3) ls (.ref (hn h) :: st) (newC h 23 N N) o h') : J M d pc ls (.int x :: st) h o h' := by
  refine J_al hV (fun Γ p l e R s m args below meth c A Q H locs cells slots ad lsr C WH S c1 c2 kk => ?_) k
  have ew := wcell_ref (Γ := Γ) (ad := ad) (h := newC h 23 N N) (i := hn h) (n := N) (t := 23) (if_pos rfl) (Nat.le_refl _)
  refine va_newq C.1 C.2.1 C.2.2.2.1 (C.2.2.2.2.1 _ hcl) C.2.2.2.2.2.1.2.2.1 C.2.2.2.2.2.1.1 WH.1 WH.2.1 S C.2.2.2.2.2.2.2.2.2.1 hx hN (by omega) c1 c2 hd (fun q cA H1 ka a b cS => ?_)
  obtain ⟨_, _, -, -, -, h1⟩ := (ka.2 6 (cA, .object RX4) rfl).2
  obtain ⟨_, _, -, -, -, h2⟩ := (C.2.2.2.2.2.1.1.2 3 (Γ.2.1 23, .object RX4) rfl).2
  cases Option.some.inj (h1.symm.trans h2)
  rw [ew, show (fun k => (hR (newC h 23 N N) (hn h) k).map ad) = fun _ => none from funext fun _ => by rw [show hR (newC h 23 N N) (hn h) _ = none from if_pos rfl]; rfl] at kk
  exact kk q H1 a b cS
/-! members of the JDK that are rows of the kit -/
theorem j_objInit {idx b : Nat} (hd : decode M.2.1 pc = .ok (.invokespecial idx, 3)) (hl : ML M.1.cls idx Lib.objectInit) (hst : (st.map fun v => v.category).sum ≤ 8) (k : J M (d + 1) (pc + 3) ls st h o h') : J M (d + 1) pc ls (.ref b :: st) h o h' :=
  J_st (fun Γ p l e R s m args below meth c A Q H locs cells slots ad lsr C WH S L kk => by
    have hR1 := C.2.2.2.2.2.2.2.1
    have hR2 := C.2.2.2.2.2.2.2.2.1
    have hr : 2 * (F0 m pc lsr (st.map (tr Γ ad))).monitorRoom + ((st.map (tr Γ ad)).map fun v => v.category).sum ≤ 8 := lv_room (by rw [cat_ad]; exact hst)
    exact W.objInit C.1 C.2.1 C.2.2.2.1 (C.2.2.2.2.1 _ hl) (C.2.2.2.2.1 _ oi_inst) (C.2.2.2.2.1 _ oi_code) rfl (by show lsr.size = _; rw [L.1, C.2.2.1]) rfl hd (by omega) (by
      have : 2 * (F0 m pc lsr ((Value.ref b :: st).map (tr Γ ad))).monitorRoom = 2 * (F0 m pc lsr (st.map (tr Γ ad))).monitorRoom := rfl
      omega) kk) k
theorem j_mmax {x y : Int32} {idx : Nat} (hd : decode M.2.1 pc = .ok (.invokestatic idx, 3)) (hl : ML M.1.cls idx Lib.Math.max.name) (hst : (st.map fun v => v.category).sum ≤ 8) (k : J M (d + 1) (pc + 3) ls (.int (if x < y then y else x) :: st) h o h') : J M (d + 1) pc ls (.int y :: .int x :: st) h o h' :=
  ⟨k.1, fun Γ p l e R s m args below meth c A Q H locs cells slots ad lsr C WH S L c1 c2 hK => by
    have hR1 := C.2.2.2.2.2.2.2.1
    have hR2 := C.2.2.2.2.2.2.2.2.1
    exact va_mmax C.1 C.2.1 (by rw [L.1, C.2.2.1]) C.2.2.2.1 (C.2.2.2.2.1 _ hl) (C.2.2.2.2.1 _ mst_max) (C.2.2.2.2.1 _ ini_J9) (C.2.2.2.2.1 _ mco_max) (by omega) (by rw [cat_ad]; omega) (by omega) (by omega) hd (k.2 Γ p l e R s m args below meth c A Q H locs cells slots ad lsr C WH S L c1 c2 hK)⟩
theorem j_mmin {x y : Int32} {idx : Nat} (hd : decode M.2.1 pc = .ok (.invokestatic idx, 3)) (hl : ML M.1.cls idx Lib.Math.min.name) (hst : (st.map fun v => v.category).sum ≤ 8) (k : J M (d + 1) (pc + 3) ls (.int (if y < x then y else x) :: st) h o h') : J M (d + 1) pc ls (.int y :: .int x :: st) h o h' :=
  ⟨k.1, fun Γ p l e R s m args below meth c A Q H locs cells slots ad lsr C WH S L c1 c2 hK => by
    have hR1 := C.2.2.2.2.2.2.2.1
    have hR2 := C.2.2.2.2.2.2.2.2.1
    exact va_mmin C.1 C.2.1 (by rw [L.1, C.2.2.1]) C.2.2.2.1 (C.2.2.2.2.1 _ hl) (C.2.2.2.2.1 _ mst_min) (C.2.2.2.2.1 _ ini_J9) (C.2.2.2.2.1 _ mco_min) (by omega) (by rw [cat_ad]; omega) (by omega) (by omega) hd (k.2 Γ p l e R s m args below meth c A Q H locs cells slots ad lsr C WH S L c1 c2 hK)⟩
theorem j_mabs {x : Int32} {idx : Nat} (hd : decode M.2.1 pc = .ok (.invokestatic idx, 3)) (hl : ML M.1.cls idx Lib.Math.abs.name) (hst : (st.map fun v => v.category).sum ≤ 8) (k : J M (d + 1) (pc + 3) ls (.int (if 0 ≤ x then x else 0 - x) :: st) h o h') : J M (d + 1) pc ls (.int x :: st) h o h' :=
  ⟨k.1, fun Γ p l e R s m args below meth c A Q H locs cells slots ad lsr C WH S L c1 c2 hK => by
    have hR1 := C.2.2.2.2.2.2.2.1
    have hR2 := C.2.2.2.2.2.2.2.2.1
    exact va_mabs C.1 C.2.1 (by rw [L.1, C.2.2.1]) C.2.2.2.1 (C.2.2.2.2.1 _ hl) (C.2.2.2.2.1 _ mst_abs) (C.2.2.2.2.1 _ ini_J9) (C.2.2.2.2.1 _ mco_abs) (by omega) (by rw [cat_ad]; omega) (by omega) (by omega) hd (k.2 Γ p l e R s m args below meth c A Q H locs cells slots ad lsr C WH S L c1 c2 hK)⟩
theorem j_acopy {i0 i1 n0 n1 : Nat} {sp dp n : Int32} {idx : Nat} (hd : decode M.2.1 pc = .ok (.invokestatic idx, 3)) (hl : ML M.1.cls idx arraycopyName) (hst : (st.map fun v => v.category).sum ≤ 8) (hg0 : hG h i0 = (22, n0)) (hg1 : hG h i1 = (22, n1)) (h1 : ¬ sp < 0) (h2 : ¬ dp < 0) (h3 : ¬ n < 0) (h4 : sp.toNatClampNeg + n.toNatClampNeg ≤ n0) (h5 : dp.toNatClampNeg + n.toNatClampNeg ≤ n1)
    (k : J M (d + 1) (pc + 3) ls st (cpyL h i0 i1 sp.toNatClampNeg dp.toNatClampNeg n.toNatClampNeg) o h') : J M (d + 1) pc ls (.int n :: .int dp :: .ref i1 :: .int sp :: .ref i0 :: st) h o h' := by
  obtain ⟨hi0, hT0⟩ := hG_lt hg0 (by omega)
  obtain ⟨hi1, hT1⟩ := hG_lt hg1 (by omega)
  refine J_hpl (h1 := cpyL h i0 i1 sp.toNatClampNeg dp.toNatClampNeg n.toNatClampNeg) rfl rfl (fun Γ p l e R s m args below meth c A Q H locs cells slots ad lsr C WH S L kk => ?_) k
  have hR1 := C.2.2.2.2.2.2.2.1
  have hR2 := C.2.2.2.2.2.2.2.2.1
  have es := wsG_set (Γ := Γ) (ad := ad) (h := h) (h1 := cpyL h i0 i1 sp.toNatClampNeg dp.toNatClampNeg n.toNatClampNeg) hi1 rfl (e := .inl (Γ.2.1 22, n1, .inr (.inl (va_cpy (hL h i0) (hL h i1) sp.toNatClampNeg dp.toNatClampNeg n.toNatClampNeg)))) (by rw [wcell_lon (h := cpyL h i0 i1 _ _ _) hT1]; congr 4; congr 1; funext q; simp [hL_cpyL, va_cpy]) (fun j hj => wcell_eq rfl rfl (by funext q; simp [hL_cpyL, hj]) rfl)
  refine va_copyl (ty := .long) C.1 C.2.1 (by rw [L.1, C.2.2.1]) C.2.2.2.1 (C.2.2.2.2.1 _ hl) (C.2.2.2.2.1 _ acp_n) (C.2.2.2.2.1 _ acp_s) (C.2.2.2.2.1 _ ini_J10) C.2.2.2.2.2.1.1 WH.1 WH.2.1 S i0 i1 2 2 (by rw [wsG_get hi0, wcell_lon hT0]) (by rw [wsG_get hi1, wcell_lon hT1]) rfl rfl rfl h1 h2 h3 h4 h5 (fun i hi => rfl) (by omega) ?_ hd (fun H1 locs1 a b cS => by rw [es] at a b; exact kk H1 locs1 ⟨a, b, WH.2.2⟩ cS)
  rw [cat_ad]
  have : nativeFrameWords "java/lang/System" "arraycopy" 5 ≤ 17 := by decide
  omega
end JA
