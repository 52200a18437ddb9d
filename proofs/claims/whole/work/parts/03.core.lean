/-! A PURE PICTURE OF THE HEAP: cells by number; tag and length, ints, longs, references. J: from here on the method comes to its end with this answer and this heap. -/
abbrev PH : Type := Nat × Nat × (Nat → Nat × Nat) × (Nat → Nat → Int32) × (Nat → Nat → Int64) × (Nat → Nat → Option Nat)
def hn (h : PH) : Nat := h.1
def hs (h : PH) : Nat := h.2.1
def hT (h : PH) : Nat → Nat × Nat := h.2.2.1
def hI (h : PH) : Nat → Nat → Int32 := h.2.2.2.1
def hL (h : PH) : Nat → Nat → Int64 := h.2.2.2.2.1
def hR (h : PH) : Nat → Nat → Option Nat := h.2.2.2.2.2
def up2 {α : Type} (f : Nat → Nat → α) (i k : Nat) (v : α) : Nat → Nat → α := fun a b => if a = i ∧ b = k then v else f a b
def setI (h : PH) (i k : Nat) (v : Int32) : PH := (h.1, h.2.1, h.2.2.1, up2 h.2.2.2.1 i k v, h.2.2.2.2)
def setL (h : PH) (i k : Nat) (v : Int64) : PH := (h.1, h.2.1, h.2.2.1, h.2.2.2.1, up2 h.2.2.2.2.1 i k v, h.2.2.2.2.2)
def setR (h : PH) (i k : Nat) (v : Option Nat) : PH := (h.1, h.2.1, h.2.2.1, h.2.2.2.1, h.2.2.2.2.1, up2 h.2.2.2.2.2 i k v)
/-- a new cell: tag, length, slots; all of it zero -/
def newC (h : PH) (t n w : Nat) : PH := (h.1 + 1, h.2.1 + w, fun i => if i = h.1 then (t, n) else h.2.2.1 i, fun i k => if i = h.1 then 0 else h.2.2.2.1 i k, fun i k => if i = h.1 then 0 else h.2.2.2.2.1 i k, fun i k => if i = h.1 then none else h.2.2.2.2.2 i k)
/-- the machine's side: classes and slots, array classes by tag, places of the constants, the script -/
abbrev GA : Type := va_G × (Nat → ClassId) × (Nat → Nat) × Nat × (Nat → Int32)
def tr (Γ : GA) (ad : Nat → Nat) : Value → Value
  | .ref i => .ref (ad i)
  | .retAddr k => .ref (Γ.2.2.1 k)
  | .int x => .int x
  | .long x => .long x
  | .null => .null
  | .float x => .float x
  | .double x => .double x
theorem tr_cat (Γ : GA) (ad : Nat → Nat) (v : Value) : (tr Γ ad v).category = v.category := by cases v <;> rfl
abbrev cls : List vw_C := [(RX0, TX0, 2), (RX1, TX1, 8), (RX2, TX2, 3), (RX3, TX3, 5), (RX4, TX4, 2), (RX5, TX5, 2), (RX6, TX6, 7), (RX7, TX7, 11), (RX8, TX8, 38)]
def fN : Nat → Nat := fun c => match c with
  | 0 => 2 | 1 => 8 | 2 => 3 | 3 => 5 | 4 => 2 | 5 => 2 | 6 => 7 | 7 => 11 | _ => 38
def fT : Nat → Nat → FieldType := fun c => match c with
  | 0 => tyX0 | 1 => tyX1 | 2 => tyX2 | 3 => tyX3 | 4 => tyX4 | 5 => tyX5 | 6 => tyX6 | 7 => tyX7 | _ => tyX8
def rty : FieldType → Bool
  | .int => false
  | .boolean => false
  | _ => true
def fval (ad : Nat → Nat) (h : PH) (i c k : Nat) : Value := if rty (fT c k) then va_rf ((hR h i k).map ad) else .int (hI h i k)
def wcell (Γ : GA) (ad : Nat → Nat) (h : PH) (i : Nat) : va_E :=
  if (hT h i).1 < 9 then .inr ((hT h i).1, (List.range (fN (hT h i).1)).map (fval ad h i (hT h i).1))
  else if (hT h i).1 = 22 then .inl (Γ.2.1 22, (hT h i).2, .inr (.inl (hL h i)))
  else if (hT h i).1 = 20 ∨ (hT h i).1 = 21 then .inl (Γ.2.1 (hT h i).1, (hT h i).2, .inl (hI h i))
  else .inl (Γ.2.1 (hT h i).1, (hT h i).2, .inr (.inr (.inr (.inr fun k => (hR h i k).map ad))))
def wsG (Γ : GA) (ad : Nat → Nat) (h : PH) : va_W := (List.range (hn h)).map fun i => (ad i, wcell Γ ad h i)
theorem wsG_get {Γ : GA} {ad : Nat → Nat} {h : PH} {i : Nat} (hi : i < hn h) : (wsG Γ ad h)[i]? = some (ad i, wcell Γ ad h i) := by
  simp [wsG, hi]
theorem wsG_inv {Γ : GA} {ad : Nat → Nat} {h : PH} {i : Nat} {q : Nat × va_E} (hq : (wsG Γ ad h)[i]? = some q) : i < hn h ∧ q = (ad i, wcell Γ ad h i) := by
  have hl : i < hn h := by
    have := (List.getElem?_eq_some_iff.mp hq).1
    simpa [wsG] using this
  refine ⟨hl, ?_⟩
  rw [wsG_get hl] at hq
  exact (Option.some.inj hq).symm
theorem wsG_set {Γ : GA} {ad : Nat → Nat} {h h1 : PH} {i : Nat} {e : va_E} (hi : i < hn h) (z : hn h1 = hn h) (he : wcell Γ ad h1 i = e) (ho : ∀ j, j ≠ i → wcell Γ ad h1 j = wcell Γ ad h j) : (wsG Γ ad h).set i (ad i, e) = wsG Γ ad h1 := by
  apply List.ext_getElem?
  intro k
  by_cases hk : k = i
  · subst hk
    rw [wsG_get (by omega), he]
    simp [wsG, hi]
  · rw [List.getElem?_set_ne (fun q => hk q.symm)]
    unfold wsG
    rw [List.getElem?_map, List.getElem?_map, z]
    cases hr : (List.range (hn h))[k]? with
    | none => rfl
    | some x =>
      have : x = k := by
        have := List.getElem?_eq_some_iff.mp hr
        obtain ⟨a, b⟩ := this
        simpa using b.symm
      subst this
      simp [ho x hk]
def tysG (Γ : GA) : List (ClassId × FieldType) := [(Γ.2.1 20, .int), (Γ.2.1 21, .boolean), (Γ.2.1 22, .long), (Γ.2.1 23, .object RX4), (Γ.2.1 24, .array .long), (Γ.2.1 25, .array .int)]
def isNest : Cond → Bool
  | .fieldLinkNest .. => true
  | .methodLinkNest .. => true
  | _ => false
def nestW : List Cond := tables_1.filter isNest
/-- of the tables: classes, nest mates, array classes -/
def KF (Γ : GA) (s : State) : Prop := va_K Γ.1 cls (tysG Γ) s ∧ (∀ w ∈ nestW, va_Nw w s) ∧ va_AO RX4 s ∧ va_AOA .long s ∧ va_AOA .int s
def cnm : Nat → String := fun k => match k with
  | 0 => "KIND_ABOVE" | 1 => "LEAST_TRAIT" | 2 => "GREATEST_TRAIT" | 3 => "LEAST_SETTING" | _ => "GREATEST_SETTING"
def ctab0 : Nat → List Int32 := fun k => match k with
  | 0 => [-1, 0, 0, 1, 2, 0] | 1 => [0, 0, 1, 0, 0] | 2 => [5, 9, 40, 99, 40] | 3 => [0, 1, 0] | _ => [9, 8, 999]
/-- constant arrays of ints: five tables, and the script -/
def clen (Γ : GA) (k : Nat) : Nat := if k < 5 then (ctab0 k).length else Γ.2.2.2.1
def ctab (Γ : GA) (k j : Nat) : Int32 := if k < 5 then (ctab0 k).getD j 0 else Γ.2.2.2.2 j
/-- the texts: their class, place in its pool, letters -/
def sown : Nat → String := fun i => if i < 6 then RX3 else RX8
def sidx : List Nat := [36, 45, 50, 63, 69, 71, 206, 215, 220, 222, 223, 224]
def stx : List String := ["person", "climb", "down", "wind", "most", "day", "person", "climb", "down", "wind", "most", "day"]
def sbyt : List (List Int32) := [[112, 101, 114, 115, 111, 110], [99, 108, 105, 109, 98], [100, 111, 119, 110], [119, 105, 110, 100], [109, 111, 115, 116], [100, 97, 121], [112, 101, 114, 115, 111, 110], [99, 108, 105, 109, 98], [100, 111, 119, 110], [119, 105, 110, 100], [109, 111, 115, 116], [100, 97, 121]]
def SF (Γ : GA) (A : Nat → Prop) (s : State) : Prop := (∀ i, i < 12 → vk_R (sown i) (sidx.getD i 0) (stx.getD i "") (Γ.2.2.1 (6 + i)) s ∧ va_O "java/lang/String" (Γ.2.2.1 (6 + i)) A s s.heap ∧ va_OF "java/lang/String" "coder" "B" (.int 0) (Γ.2.2.1 (6 + i)) A s s.heap ∧ va_OF "java/lang/String" "value" "[B" (.ref (Γ.2.2.1 (18 + i))) (Γ.2.2.1 (6 + i)) A s s.heap ∧ va_T .byte (Γ.2.2.1 (18 + i)) (sbyt.getD i []).length (fun j => .int ((sbyt.getD i []).getD j 0)) A s s.heap) ∧ va_Z "java/lang/String" "COMPACT_STRINGS" "Z" (.int 1) A s s.heap ∧ (va_Z "jdk/internal/util/Preconditions" "SIOOBE_FORMATTER" "Ljava/util/function/BiFunction;" .null A s s.heap ∨ va_Z "jdk/internal/util/Preconditions" "SIOOBE_FORMATTER" "Ljava/util/function/BiFunction;" (.ref (Γ.2.2.1 30)) A s s.heap)
def CF (Γ : GA) (A : Nat → Prop) (s : State) : Prop := (∀ k, k < 5 → va_Z RX7 (cnm k) "[I" (.ref (Γ.2.2.1 k)) A s s.heap) ∧ (∀ k, k < 6 → va_T .int (Γ.2.2.1 k) (clen Γ k) (fun j => .int (ctab Γ k j)) A s s.heap) ∧ SF Γ A s
theorem CF.move {Γ : GA} {A B : Nat → Prop} {s U : State} (h : CF Γ A s) (hW : s.WarmedH U.vm) (hq : ∀ a : Nat, a < s.heap.size → ¬ A a → U.heap[a]? = s.heap[a]?) (hAB : ∀ q, B q → A q) : CF Γ B U := by
  obtain ⟨h1, h2, h3, h4, h5⟩ := h
  refine ⟨fun k hk => (va_Z.moved hW.alike ((h1 k hk).kept hq)).narrow hAB, fun k hk => (va_T.moved hW.alike ((h2 k hk).kept hq)).narrow hAB, fun i hi => ?_, (va_Z.moved hW.alike (h4.kept hq)).narrow hAB, h5.elim (fun z => Or.inl ((va_Z.moved hW.alike (z.kept hq)).narrow hAB)) (fun z => Or.inr ((va_Z.moved hW.alike (z.kept hq)).narrow hAB))⟩
  obtain ⟨g1, g2, g3, g4, g5⟩ := h3 i hi
  exact ⟨g1.warm hW, (va_O.moved hW.alike (g2.kept hq)).narrow hAB, (va_OF.moved hW.alike (g3.kept hq)).narrow hAB, (va_OF.moved hW.alike (g4.kept hq)).narrow hAB, (va_T.moved hW.alike (g5.kept hq)).narrow hAB⟩
abbrev JM : Type := MethodName × ByteArray × Nat
/-- what stays fixed while a method runs -/
def JCx (Γ : GA) (M : JM) (d : Nat) (p : Program) (R : Room) (s : State) (m : MethodId) (args : Array Value) (meth : Method) (c : Code) (A : Nat → Prop) : Prop :=
  p.tables.exec = Jvm.exec ∧ c.code = M.2.1 ∧ c.maxLocals = M.2.2 ∧ s.vm.findClass M.1.cls = some m.cls ∧ (∀ w ∈ gtbl, w.before args s = true) ∧ KF Γ s ∧ CF Γ A s ∧ d ≤ R.frames ∧ 36 * d ≤ R.locals ∧ (∀ q, s.heap.size ≤ q → A q) ∧ meth.name = M.1.name
/-- every reference in the heap names a cell -/
def hwf (h : PH) : Prop := ∀ (i k r : Nat), hR h i k = some r → r < hn h
def WW (Γ : GA) (A : Nat → Prop) (ad : Nat → Nat) (h : PH) (H : Heap) : Prop := va_P Γ.1 cls (wsG Γ ad h) H ∧ va_D A (wsG Γ ad h) ∧ hwf h
def LR (Γ : GA) (ad : Nat → Nat) (nL : Nat) (ls : List (Option Value)) (lsr : Array Slot) : Prop := lsr.size = nL ∧ lv_wf lsr ∧ ls.length = nL ∧ ∀ (i : Nat) (v : Value), ls[i]? = some (some v) → lsr[i]? = some (.val (tr Γ ad v))
def AdE (ad ad1 : Nat → Nat) (h h' : PH) : Prop := ∀ i, (i < hn h ∨ hn h' ≤ i) → ad1 i = ad i
def RetAt (cc : ByteArray) (pc : Nat) (o : Option Value) : Prop := match o with
  | none => decode cc pc = .ok (.return_, 1)
  | some (.int _) => decode cc pc = .ok (.ireturn, 1)
  | some (.long _) => decode cc pc = .ok (.lreturn, 1)
  | some .null => decode cc pc = .ok (.areturn, 1)
  | some (.ref _) => decode cc pc = .ok (.areturn, 1)
  | _ => False
def J (M : JM) (d pc : Nat) (ls : List (Option Value)) (st : List Value) (h : PH) (o : Option Value) (h' : PH) : Prop :=
  (hn h ≤ hn h' ∧ hs h ≤ hs h') ∧
  ∀ (Γ : GA) (p : Program) (l : Launch) (e : Env) (R : Room) (s : State) (m : MethodId) (args : Array Value) (below : List Frame) (meth : Method) (c : Code) (A : Nat → Prop) (Q : State → Prop) (H : Heap) (locs : List Loc) (cells slots : Nat) (ad : Nat → Nat) (lsr : Array Slot),
    JCx Γ M d p R s m args meth c A → WW Γ A ad h H → va_S A s.heap H locs → LR Γ ad M.2.2 ls lsr → cells + (hn h' - hn h) ≤ R.cells → slots + (hs h' - hs h) ≤ R.slots →
    (∀ (H1 : Heap) (locs1 : List Loc) (ad1 : Nat → Nat) (pc1 : Nat) (ls1 : Array Slot), RetAt M.2.1 pc1 o → AdE ad ad1 h h' → WW Γ A ad1 h' H1 → va_S A s.heap H1 locs1 → W p l e R s m args below meth c H1 locs1 (cells + (hn h' - hn h)) (slots + (hs h' - hs h)) Q (F0 m pc1 ls1 (o.toList.map (tr Γ ad1)))) →
    W p l e R s m args below meth c H locs cells slots Q (F0 m pc lsr (st.map (tr Γ ad)))
section JRules
variable {M : JM} {d pc : Nat} {ls : List (Option Value)} {st : List Value} {h : PH} {o : Option Value} {h' : PH}
/-- one instruction that leaves locals and heap -/
theorem J_st {pc' : Nat} {st' : List Value}
    (hW : ∀ (Γ : GA) (p : Program) (l : Launch) (e : Env) (R : Room) (s : State) (m : MethodId) (args : Array Value) (below : List Frame) (meth : Method) (c : Code) (A : Nat → Prop) (Q : State → Prop) (H : Heap) (locs : List Loc) (cells slots : Nat) (ad : Nat → Nat) (lsr : Array Slot), JCx Γ M d p R s m args meth c A → WW Γ A ad h H → va_S A s.heap H locs → LR Γ ad M.2.2 ls lsr → W p l e R s m args below meth c H locs cells slots Q (F0 m pc' lsr (st'.map (tr Γ ad))) → W p l e R s m args below meth c H locs cells slots Q (F0 m pc lsr (st.map (tr Γ ad))))
    (k : J M d pc' ls st' h o h') : J M d pc ls st h o h' :=
  ⟨k.1, fun Γ p l e R s m args below meth c A Q H locs cells slots ad lsr hC hWW hS hL h1 h2 hK => hW Γ p l e R s m args below meth c A Q H locs cells slots ad lsr hC hWW hS hL (k.2 Γ p l e R s m args below meth c A Q H locs cells slots ad lsr hC hWW hS hL h1 h2 hK)⟩
/-- .. that changes locals -/
theorem J_sl {pc' : Nat} {st' : List Value} {ls' : List (Option Value)}
    (hW : ∀ (Γ : GA) (p : Program) (l : Launch) (e : Env) (R : Room) (s : State) (m : MethodId) (args : Array Value) (below : List Frame) (meth : Method) (c : Code) (A : Nat → Prop) (Q : State → Prop) (H : Heap) (locs : List Loc) (cells slots : Nat) (ad : Nat → Nat) (lsr : Array Slot), JCx Γ M d p R s m args meth c A → LR Γ ad M.2.2 ls lsr → (∀ lsr' : Array Slot, LR Γ ad M.2.2 ls' lsr' → W p l e R s m args below meth c H locs cells slots Q (F0 m pc' lsr' (st'.map (tr Γ ad)))) → W p l e R s m args below meth c H locs cells slots Q (F0 m pc lsr (st.map (tr Γ ad))))
    (k : J M d pc' ls' st' h o h') : J M d pc ls st h o h' :=
  ⟨k.1, fun Γ p l e R s m args below meth c A Q H locs cells slots ad lsr hC hWW hS hL h1 h2 hK => hW Γ p l e R s m args below meth c A Q H locs cells slots ad lsr hC hL (fun lsr' hL' => k.2 Γ p l e R s m args below meth c A Q H locs cells slots ad lsr' hC hWW hS hL' h1 h2 hK)⟩
/-- a branch -/
theorem J_br {P : Prop} {pc1 pc2 : Nat} {st' : List Value}
    (hW : ∀ (p : Program) (l : Launch) (e : Env) (R : Room) (s : State) (m : MethodId) (args : Array Value) (below : List Frame) (meth : Method) (c : Code) (Q : State → Prop) (H : Heap) (locs : List Loc) (cells slots : Nat) (Γ : GA) (ad : Nat → Nat) (lsr : Array Slot), p.tables.exec = Jvm.exec → c.code = M.2.1 → (P → W p l e R s m args below meth c H locs cells slots Q (F0 m pc1 lsr (st'.map (tr Γ ad)))) → (¬ P → W p l e R s m args below meth c H locs cells slots Q (F0 m pc2 lsr (st'.map (tr Γ ad)))) → W p l e R s m args below meth c H locs cells slots Q (F0 m pc lsr (st.map (tr Γ ad))))
    (k1 : P → J M d pc1 ls st' h o h') (k2 : ¬ P → J M d pc2 ls st' h o h') : J M d pc ls st h o h' :=
  ⟨(Classical.em P).elim (fun q => (k1 q).1) (fun q => (k2 q).1), fun Γ p l e R s m args below meth c A Q H locs cells slots ad lsr hC hWW hS hL h1 h2 hK => hW p l e R s m args below meth c Q H locs cells slots Γ ad lsr hC.1 hC.2.1 (fun q => (k1 q).2 Γ p l e R s m args below meth c A Q H locs cells slots ad lsr hC hWW hS hL h1 h2 hK) (fun q => (k2 q).2 Γ p l e R s m args below meth c A Q H locs cells slots ad lsr hC hWW hS hL h1 h2 hK)⟩
/-- the end -/
theorem J_ret {o : Option Value} (hd : RetAt M.2.1 pc o) : J M d pc ls o.toList h o h :=
  ⟨⟨Nat.le_refl _, Nat.le_refl _⟩, fun Γ p l e R s m args below meth c A Q H locs cells slots ad lsr hC hWW hS hL h1 h2 hK => by
    have k := hK H locs ad pc lsr hd (fun _ _ => rfl) hWW hS
    rw [Nat.sub_self, Nat.sub_self, Nat.add_zero, Nat.add_zero] at k
    exact k⟩
theorem j_iret {v : Int32} (hd : decode M.2.1 pc = .ok (.ireturn, 1)) : J M d pc ls [.int v] h (some (.int v)) h := J_ret (o := some (.int v)) hd
theorem j_lret {v : Int64} (hd : decode M.2.1 pc = .ok (.lreturn, 1)) : J M d pc ls [.long v] h (some (.long v)) h := J_ret (o := some (.long v)) hd
theorem j_aret {v : Nat} (hd : decode M.2.1 pc = .ok (.areturn, 1)) : J M d pc ls [.ref v] h (some (.ref v)) h := J_ret (o := some (.ref v)) hd
theorem j_nret (hd : decode M.2.1 pc = .ok (.areturn, 1)) : J M d pc ls [.null] h (some .null) h := J_ret (o := some .null) hd
theorem j_vret (hd : decode M.2.1 pc = .ok (.return_, 1)) : J M d pc ls [] h none h := J_ret (o := none) hd
/-- locals as a list of places -/
def lsl (Γ : GA) (ad : Nat → Nat) (ls : List (Option Value)) (n : Nat) : List (Nat × Value) := (List.range n).filterMap fun i => (ls[i]?.join).map fun v => (i, tr Γ ad v)
theorem LR.has {Γ : GA} {ad : Nat → Nat} {nL : Nat} {ls : List (Option Value)} {lsr : Array Slot} (hr : LR Γ ad nL ls lsr) : lv_has lsr nL (lsl Γ ad ls nL) := by
  refine ⟨hr.1, hr.2.1, fun q hq => ?_⟩
  obtain ⟨i, -, hi⟩ := List.mem_filterMap.mp hq
  cases hj : ls[i]?.join with
  | none => rw [hj] at hi; cases hi
  | some v =>
    rw [hj] at hi
    cases hi
    cases hv : ls[i]? with
    | none => rw [hv] at hj; cases hj
    | some w =>
      rw [hv] at hj
      cases hj
      exact hr.2.2.2 i v hv
theorem lsl_mem {Γ : GA} {ad : Nat → Nat} {nL : Nat} {ls : List (Option Value)} {i : Nat} {v : Value} (hi : ls[i]? = some (some v)) (hn : i < nL) : (i, tr Γ ad v) ∈ lsl Γ ad ls nL :=
  List.mem_filterMap.mpr ⟨i, List.mem_range.mpr hn, by rw [hi]; rfl⟩
def noL (ls : List (Option Value)) (i : Nat) : Bool := match i with
  | 0 => true
  | j + 1 => match ls[j]? with
    | some (some (.long _)) => false
    | some (some (.double _)) => false
    | _ => true
theorem noL_cat {ls : List (Option Value)} {j : Nat} {v : Value} (h : noL ls (j + 1) = true) (hv : ls[j]? = some (some v)) : ¬ v.category = 2 := by
  cases v <;> simp_all [noL, Value.category]
theorem LR.set1 {Γ : GA} {ad : Nat → Nat} {nL i : Nat} {ls : List (Option Value)} {lsr lsr' : Array Slot} {v : Value} (hr : LR Γ ad nL ls lsr) (hi : i < nL) (hno : noL ls i = true)
    (hs : lv_has lsr' nL ((i, tr Γ ad v) :: (lsl Γ ad ls nL).filter (fun q => !(q.1 == i) && !(q.1 + 1 == i && q.2.category == 2)))) : LR Γ ad nL (ls.set i (some v)) lsr' := by
  obtain ⟨h1, h2, h3⟩ := hs
  refine ⟨h1, h2, by rw [List.length_set]; exact hr.2.2.1, fun j w hj => ?_⟩
  by_cases hji : j = i
  · subst hji
    rw [List.getElem?_set_self (by rw [hr.2.2.1]; exact hi)] at hj
    cases hj
    exact h3 _ List.mem_cons_self
  · rw [List.getElem?_set_ne (fun q => hji q.symm)] at hj
    have hjl : j < nL := by have := (List.getElem?_eq_some_iff.mp hj).1; rw [hr.2.2.1] at this; exact this
    refine h3 (j, tr Γ ad w) (List.mem_cons_of_mem _ (List.mem_filter.mpr ⟨lsl_mem hj hjl, ?_⟩))
    by_cases hj1 : j + 1 = i
    · subst hj1
      have := noL_cat hno hj
      simp [tr_cat, this]
    · simp [hji, hj1]
theorem LR.set2 {Γ : GA} {ad : Nat → Nat} {nL i : Nat} {ls : List (Option Value)} {lsr lsr' : Array Slot} {v : Value} (hr : LR Γ ad nL ls lsr) (hi : i + 1 < nL) (hno : noL ls i = true)
    (hs : lv_has lsr' nL ((i, tr Γ ad v) :: (lsl Γ ad ls nL).filter (fun q => !(q.1 == i) && (!(q.1 == i + 1) && !(q.1 + 1 == i && q.2.category == 2))))) : LR Γ ad nL ((ls.set (i + 1) none).set i (some v)) lsr' := by
  obtain ⟨h1, h2, h3⟩ := hs
  refine ⟨h1, h2, by rw [List.length_set, List.length_set]; exact hr.2.2.1, fun j w hj => ?_⟩
  by_cases hji : j = i
  · subst hji
    rw [List.getElem?_set_self (by rw [List.length_set, hr.2.2.1]; omega)] at hj
    cases hj
    exact h3 _ List.mem_cons_self
  · rw [List.getElem?_set_ne (fun q => hji q.symm)] at hj
    by_cases hj2 : j = i + 1
    · subst hj2
      rw [List.getElem?_set_self (by rw [hr.2.2.1]; exact hi)] at hj
      cases hj
    · rw [List.getElem?_set_ne (fun q => hj2 q.symm)] at hj
      have hjl : j < nL := by have := (List.getElem?_eq_some_iff.mp hj).1; rw [hr.2.2.1] at this; exact this
      refine h3 (j, tr Γ ad w) (List.mem_cons_of_mem _ (List.mem_filter.mpr ⟨lsl_mem hj hjl, ?_⟩))
      by_cases hj1 : j + 1 = i
      · subst hj1
        have := noL_cat hno hj
        simp [tr_cat, this]
        try omega
      · simp [hji, hj1, hj2]
theorem LR.sub {Γ : GA} {ad : Nat → Nat} {nL : Nat} {ls ls' : List (Option Value)} {lsr : Array Slot} (hr : LR Γ ad nL ls lsr) (hl : ls'.length = ls.length) (hs : ∀ (i : Nat) (v : Value), ls'[i]? = some (some v) → ls[i]? = some (some v)) : LR Γ ad nL ls' lsr :=
  ⟨hr.1, hr.2.1, hl.trans hr.2.2.1, fun i v hv => hr.2.2.2 i v (hs i v hv)⟩
/-- some locals are forgotten -/
def lsub : List (Option Value) → List (Option Value) → Prop
  | [], [] => True
  | a :: l, b :: m => (b = none ∨ b = a) ∧ lsub l m
  | _, _ => False
theorem lsub_get : ∀ {l m : List (Option Value)}, lsub l m → m.length = l.length ∧ ∀ (i : Nat) (v : Value), m[i]? = some (some v) → l[i]? = some (some v)
  | [], [], _ => ⟨rfl, fun i v h => by simp at h⟩
  | a :: l, b :: m, h => by
    obtain ⟨h1, h2⟩ := h
    obtain ⟨g1, g2⟩ := lsub_get h2
    refine ⟨by simp [g1], fun i v hv => ?_⟩
    cases i with
    | zero =>
      simp only [List.getElem?_cons_zero, Option.some.injEq] at hv
      subst hv
      rcases h1 with h1 | h1
      · cases h1
      · rw [← h1]; rfl
    | succ i => exact g2 i v hv
  | [], _ :: _, h => h.elim
  | _ :: _, [], h => h.elim
theorem j_drop {ls' : List (Option Value)} (hs : lsub ls ls') (k : J M d pc ls' st h o h') : J M d pc ls st h o h' :=
  ⟨k.1, fun Γ p l e R s m args below meth c A Q H locs cells slots ad lsr hC hWW hS hL h1 h2 hK => k.2 Γ p l e R s m args below meth c A Q H locs cells slots ad lsr hC hWW hS (hL.sub (lsub_get hs).1 (lsub_get hs).2) h1 h2 hK⟩
theorem j_iconst {n : Int} {v : Int32} (hd : decode M.2.1 pc = .ok (.iconst n, 1)) (hv : Int32.ofInt n = v) (k : J M d (pc + 1) ls (.int v :: st) h o h') : J M d pc ls (st) h o h' :=
  J_st (fun Γ p l e R s m args below meth c A Q H locs cells slots ad lsr C WH S L k => lv_iconst C.1 C.2.1 hd hv k) k
theorem j_bipush {n : Int} {v : Int32} (hd : decode M.2.1 pc = .ok (.bipush n, 2)) (hv : (Int8.ofInt n).toInt32 = v) (k : J M d (pc + 2) ls (.int v :: st) h o h') : J M d pc ls (st) h o h' :=
  J_st (fun Γ p l e R s m args below meth c A Q H locs cells slots ad lsr C WH S L k => lv_bipush C.1 C.2.1 hd hv k) k
theorem j_sipush {n : Int} {v : Int32} (hd : decode M.2.1 pc = .ok (.sipush n, 3)) (hv : (Int16.ofInt n).toInt32 = v) (k : J M d (pc + 3) ls (.int v :: st) h o h') : J M d pc ls (st) h o h' :=
  J_st (fun Γ p l e R s m args below meth c A Q H locs cells slots ad lsr C WH S L k => lv_sipush C.1 C.2.1 hd hv k) k
theorem j_lconst {n : Fin 2} {v : Int64} (hd : decode M.2.1 pc = .ok (.lconst n, 1)) (hv : Int64.ofNat (n : Nat) = v) (k : J M d (pc + 1) ls (.long v :: st) h o h') : J M d pc ls (st) h o h' :=
  J_st (fun Γ p l e R s m args below meth c A Q H locs cells slots ad lsr C WH S L k => lv_lconst C.1 C.2.1 hd hv k) k
theorem j_null  (hd : decode M.2.1 pc = .ok (.aconst_null, 1))  (k : J M d (pc + 1) ls (.null :: st) h o h') : J M d pc ls (st) h o h' :=
  J_st (fun Γ p l e R s m args below meth c A Q H locs cells slots ad lsr C WH S L k => lv_null C.1 C.2.1 hd k) k
theorem j_ldc {i : Nat} {v : Int32} (hd : decode M.2.1 pc = .ok (.ldc i, 2)) (hc : Cond.constant M.1.cls i v ∈ gtbl) (k : J M d (pc + 2) ls (.int v :: st) h o h') : J M d pc ls (st) h o h' :=
  J_st (fun Γ p l e R s m args below meth c A Q H locs cells slots ad lsr C WH S L k => lv_ldc C.1 C.2.1 C.2.2.2.1 (C.2.2.2.2.1 _ hc) hd k) k
theorem j_ldcw {i : Nat} {v : Int32} (hd : decode M.2.1 pc = .ok (.ldc_w i, 3)) (hc : Cond.constant M.1.cls i v ∈ gtbl) (k : J M d (pc + 3) ls (.int v :: st) h o h') : J M d pc ls (st) h o h' :=
  J_st (fun Γ p l e R s m args below meth c A Q H locs cells slots ad lsr C WH S L k => lv_ldcw C.1 C.2.1 C.2.2.2.1 (C.2.2.2.2.1 _ hc) hd k) k
theorem j_ldc2 {i : Nat} {v : Int64} (hd : decode M.2.1 pc = .ok (.ldc2_w i, 3)) (hc : Cond.constantLong M.1.cls i v ∈ gtbl) (k : J M d (pc + 3) ls (.long v :: st) h o h') : J M d pc ls (st) h o h' :=
  J_st (fun Γ p l e R s m args below meth c A Q H locs cells slots ad lsr C WH S L k => lv_ldc2 C.1 C.2.1 C.2.2.2.1 (C.2.2.2.2.1 _ hc) hd k) k
theorem j_iload_n {i : Fin 4} {x : Int32} (hd : decode M.2.1 pc = .ok (.iload_n i, 1)) (hl : ls[(i : Nat)]? = some (some (.int x))) (k : J M d (pc + 1) ls (.int x :: st) h o h') : J M d pc ls (st) h o h' :=
  J_st (fun Γ p l e R s m args below meth c A Q H locs cells slots ad lsr C WH S L k => lv_iload_n C.1 C.2.1 hd rfl (L.2.2.2 _ _ hl) k) k
theorem j_iload {i : Nat} {x : Int32} (hd : decode M.2.1 pc = .ok (.iload i, 2)) (hl : ls[i]? = some (some (.int x))) (k : J M d (pc + 2) ls (.int x :: st) h o h') : J M d pc ls (st) h o h' :=
  J_st (fun Γ p l e R s m args below meth c A Q H locs cells slots ad lsr C WH S L k => lv_iload C.1 C.2.1 hd (L.2.2.2 _ _ hl) k) k
theorem j_lload_n {i : Fin 4} {x : Int64} (hd : decode M.2.1 pc = .ok (.lload_n i, 1)) (hl : ls[(i : Nat)]? = some (some (.long x))) (k : J M d (pc + 1) ls (.long x :: st) h o h') : J M d pc ls (st) h o h' :=
  J_st (fun Γ p l e R s m args below meth c A Q H locs cells slots ad lsr C WH S L k => lv_lload_n C.1 C.2.1 hd rfl (L.2.2.2 _ _ hl) k) k
theorem j_lload {i : Nat} {x : Int64} (hd : decode M.2.1 pc = .ok (.lload i, 2)) (hl : ls[i]? = some (some (.long x))) (k : J M d (pc + 2) ls (.long x :: st) h o h') : J M d pc ls (st) h o h' :=
  J_st (fun Γ p l e R s m args below meth c A Q H locs cells slots ad lsr C WH S L k => lv_lload C.1 C.2.1 hd (L.2.2.2 _ _ hl) k) k
theorem j_aload_n {i : Fin 4} {x : Nat} (hd : decode M.2.1 pc = .ok (.aload_n i, 1)) (hl : ls[(i : Nat)]? = some (some (.ref x))) (k : J M d (pc + 1) ls (.ref x :: st) h o h') : J M d pc ls (st) h o h' :=
  J_st (fun Γ p l e R s m args below meth c A Q H locs cells slots ad lsr C WH S L k => lv_aload_n C.1 C.2.1 hd rfl (L.2.2.2 _ _ hl) k) k
theorem j_aload_nC {i : Fin 4} {x : Nat} (hd : decode M.2.1 pc = .ok (.aload_n i, 1)) (hl : ls[(i : Nat)]? = some (some (.retAddr x))) (k : J M d (pc + 1) ls (.retAddr x :: st) h o h') : J M d pc ls (st) h o h' :=
  J_st (fun Γ p l e R s m args below meth c A Q H locs cells slots ad lsr C WH S L k => lv_aload_n C.1 C.2.1 hd rfl (L.2.2.2 _ _ hl) k) k
theorem j_aload_nN {i : Fin 4}  (hd : decode M.2.1 pc = .ok (.aload_n i, 1)) (hl : ls[(i : Nat)]? = some (some (.null))) (k : J M d (pc + 1) ls (.null :: st) h o h') : J M d pc ls (st) h o h' :=
  J_st (fun Γ p l e R s m args below meth c A Q H locs cells slots ad lsr C WH S L k => lv_aload_nN C.1 C.2.1 hd rfl (L.2.2.2 _ _ hl) k) k
theorem j_aload {i : Nat} {x : Nat} (hd : decode M.2.1 pc = .ok (.aload i, 2)) (hl : ls[i]? = some (some (.ref x))) (k : J M d (pc + 2) ls (.ref x :: st) h o h') : J M d pc ls (st) h o h' :=
  J_st (fun Γ p l e R s m args below meth c A Q H locs cells slots ad lsr C WH S L k => lv_aload C.1 C.2.1 hd (L.2.2.2 _ _ hl) k) k
theorem j_aloadC {i : Nat} {x : Nat} (hd : decode M.2.1 pc = .ok (.aload i, 2)) (hl : ls[i]? = some (some (.retAddr x))) (k : J M d (pc + 2) ls (.retAddr x :: st) h o h') : J M d pc ls (st) h o h' :=
  J_st (fun Γ p l e R s m args below meth c A Q H locs cells slots ad lsr C WH S L k => lv_aload C.1 C.2.1 hd (L.2.2.2 _ _ hl) k) k
theorem j_aloadN {i : Nat}  (hd : decode M.2.1 pc = .ok (.aload i, 2)) (hl : ls[i]? = some (some (.null))) (k : J M d (pc + 2) ls (.null :: st) h o h') : J M d pc ls (st) h o h' :=
  J_st (fun Γ p l e R s m args below meth c A Q H locs cells slots ad lsr C WH S L k => lv_aloadN C.1 C.2.1 hd (L.2.2.2 _ _ hl) k) k
theorem j_iadd {x y : Int32} (hd : decode M.2.1 pc = .ok (.iadd, 1))  (k : J M d (pc + 1) ls (.int (x + y) :: st) h o h') : J M d pc ls (.int y :: .int x :: st) h o h' :=
  J_st (fun Γ p l e R s m args below meth c A Q H locs cells slots ad lsr C WH S L k => lv_iadd C.1 C.2.1 hd k) k
theorem j_isub {x y : Int32} (hd : decode M.2.1 pc = .ok (.isub, 1))  (k : J M d (pc + 1) ls (.int (x - y) :: st) h o h') : J M d pc ls (.int y :: .int x :: st) h o h' :=
  J_st (fun Γ p l e R s m args below meth c A Q H locs cells slots ad lsr C WH S L k => lv_isub C.1 C.2.1 hd k) k
theorem j_imul {x y : Int32} (hd : decode M.2.1 pc = .ok (.imul, 1))  (k : J M d (pc + 1) ls (.int (x * y) :: st) h o h') : J M d pc ls (.int y :: .int x :: st) h o h' :=
  J_st (fun Γ p l e R s m args below meth c A Q H locs cells slots ad lsr C WH S L k => lv_imul C.1 C.2.1 hd k) k
theorem j_iand {x y : Int32} (hd : decode M.2.1 pc = .ok (.iand, 1))  (k : J M d (pc + 1) ls (.int (x &&& y) :: st) h o h') : J M d pc ls (.int y :: .int x :: st) h o h' :=
  J_st (fun Γ p l e R s m args below meth c A Q H locs cells slots ad lsr C WH S L k => lv_iand C.1 C.2.1 hd k) k
theorem j_ior {x y : Int32} (hd : decode M.2.1 pc = .ok (.ior, 1))  (k : J M d (pc + 1) ls (.int (x ||| y) :: st) h o h') : J M d pc ls (.int y :: .int x :: st) h o h' :=
  J_st (fun Γ p l e R s m args below meth c A Q H locs cells slots ad lsr C WH S L k => lv_ior C.1 C.2.1 hd k) k
theorem j_ixor {x y : Int32} (hd : decode M.2.1 pc = .ok (.ixor, 1))  (k : J M d (pc + 1) ls (.int (x ^^^ y) :: st) h o h') : J M d pc ls (.int y :: .int x :: st) h o h' :=
  J_st (fun Γ p l e R s m args below meth c A Q H locs cells slots ad lsr C WH S L k => lv_ixor C.1 C.2.1 hd k) k
theorem j_ishl {x y : Int32} (hd : decode M.2.1 pc = .ok (.ishl, 1))  (k : J M d (pc + 1) ls (.int (x <<< (y &&& 31)) :: st) h o h') : J M d pc ls (.int y :: .int x :: st) h o h' :=
  J_st (fun Γ p l e R s m args below meth c A Q H locs cells slots ad lsr C WH S L k => lv_ishl C.1 C.2.1 hd k) k
theorem j_ishr {x y : Int32} (hd : decode M.2.1 pc = .ok (.ishr, 1))  (k : J M d (pc + 1) ls (.int (x >>> (y &&& 31)) :: st) h o h') : J M d pc ls (.int y :: .int x :: st) h o h' :=
  J_st (fun Γ p l e R s m args below meth c A Q H locs cells slots ad lsr C WH S L k => lv_ishr C.1 C.2.1 hd k) k
theorem j_idiv {x y : Int32} (hd : decode M.2.1 pc = .ok (.idiv, 1)) (hne : ¬ y = 0) (k : J M d (pc + 1) ls (.int (x / y) :: st) h o h') : J M d pc ls (.int y :: .int x :: st) h o h' :=
  J_st (fun Γ p l e R s m args below meth c A Q H locs cells slots ad lsr C WH S L k => lv_idiv C.1 C.2.1 hd hne k) k
theorem j_irem {x y : Int32} (hd : decode M.2.1 pc = .ok (.irem, 1)) (hne : ¬ y = 0) (k : J M d (pc + 1) ls (.int (x - x / y * y) :: st) h o h') : J M d pc ls (.int y :: .int x :: st) h o h' :=
  J_st (fun Γ p l e R s m args below meth c A Q H locs cells slots ad lsr C WH S L k => lv_irem C.1 C.2.1 hd hne k) k
theorem j_ineg {x : Int32} (hd : decode M.2.1 pc = .ok (.ineg, 1))  (k : J M d (pc + 1) ls (.int (-x) :: st) h o h') : J M d pc ls (.int x :: st) h o h' :=
  J_st (fun Γ p l e R s m args below meth c A Q H locs cells slots ad lsr C WH S L k => lv_ineg C.1 C.2.1 hd k) k
theorem j_iushr {x y : Int32} (hd : decode M.2.1 pc = .ok (.iushr, 1))  (k : J M d (pc + 1) ls (.int ((x.toUInt32 >>> (y.toUInt32 &&& Int32.toUInt32 31)).toInt32) :: st) h o h') : J M d pc ls (.int y :: .int x :: st) h o h' :=
  J_st (fun Γ p l e R s m args below meth c A Q H locs cells slots ad lsr C WH S L k => lv_iushr C.1 C.2.1 hd rfl k) k
theorem j_i2l {x : Int32} (hd : decode M.2.1 pc = .ok (.i2l, 1))  (k : J M d (pc + 1) ls (.long x.toInt64 :: st) h o h') : J M d pc ls (.int x :: st) h o h' :=
  J_st (fun Γ p l e R s m args below meth c A Q H locs cells slots ad lsr C WH S L k => lv_i2l C.1 C.2.1 hd rfl k) k
theorem j_l2i {x : Int64} (hd : decode M.2.1 pc = .ok (.l2i, 1))  (k : J M d (pc + 1) ls (.int x.toInt32 :: st) h o h') : J M d pc ls (.long x :: st) h o h' :=
  J_st (fun Γ p l e R s m args below meth c A Q H locs cells slots ad lsr C WH S L k => lv_l2i C.1 C.2.1 hd rfl k) k
theorem j_i2b {x : Int32} (hd : decode M.2.1 pc = .ok (.i2b, 1))  (k : J M d (pc + 1) ls (.int x.toInt8.toInt32 :: st) h o h') : J M d pc ls (.int x :: st) h o h' :=
  J_st (fun Γ p l e R s m args below meth c A Q H locs cells slots ad lsr C WH S L k => lv_i2b C.1 C.2.1 hd rfl k) k
theorem j_i2s {x : Int32} (hd : decode M.2.1 pc = .ok (.i2s, 1))  (k : J M d (pc + 1) ls (.int x.toInt16.toInt32 :: st) h o h') : J M d pc ls (.int x :: st) h o h' :=
  J_st (fun Γ p l e R s m args below meth c A Q H locs cells slots ad lsr C WH S L k => lv_i2s C.1 C.2.1 hd rfl k) k
theorem j_land {x y : Int64} (hd : decode M.2.1 pc = .ok (.land, 1))  (k : J M d (pc + 1) ls (.long (x &&& y) :: st) h o h') : J M d pc ls (.long y :: .long x :: st) h o h' :=
  J_st (fun Γ p l e R s m args below meth c A Q H locs cells slots ad lsr C WH S L k => lv_land C.1 C.2.1 hd k) k
theorem j_lor {x y : Int64} (hd : decode M.2.1 pc = .ok (.lor, 1))  (k : J M d (pc + 1) ls (.long (x ||| y) :: st) h o h') : J M d pc ls (.long y :: .long x :: st) h o h' :=
  J_st (fun Γ p l e R s m args below meth c A Q H locs cells slots ad lsr C WH S L k => lv_lor C.1 C.2.1 hd k) k
theorem j_lshl {x : Int64} {y : Int32} (hd : decode M.2.1 pc = .ok (.lshl, 1))  (k : J M d (pc + 1) ls (.long (x <<< (y.toInt64 &&& 63)) :: st) h o h') : J M d pc ls (.int y :: .long x :: st) h o h' :=
  J_st (fun Γ p l e R s m args below meth c A Q H locs cells slots ad lsr C WH S L k => lv_lshl C.1 C.2.1 hd rfl k) k
theorem j_lcmp {x y : Int64} (hd : decode M.2.1 pc = .ok (.lcmp, 1))  (k : J M d (pc + 1) ls (.int (lg_cmp x y) :: st) h o h') : J M d pc ls (.long y :: .long x :: st) h o h' :=
  J_st (fun Γ p l e R s m args below meth c A Q H locs cells slots ad lsr C WH S L k => W.lcmp C.1 C.2.1 hd k) k
theorem j_dup {v : Value} (hd : decode M.2.1 pc = .ok (.dup, 1)) (hv : v.category = 1) (k : J M d (pc + 1) ls (v :: v :: st) h o h') : J M d pc ls (v :: st) h o h' :=
  J_st (fun Γ p l e R s m args below meth c A Q H locs cells slots ad lsr C WH S L k => lv_dup C.1 C.2.1 hd (by rw [tr_cat]; exact hv) k) k
theorem j_pop {v : Value} (hd : decode M.2.1 pc = .ok (.pop, 1)) (hv : v.category = 1) (k : J M d (pc + 1) ls (st) h o h') : J M d pc ls (v :: st) h o h' :=
  J_st (fun Γ p l e R s m args below meth c A Q H locs cells slots ad lsr C WH S L k => lv_pop C.1 C.2.1 hd (by rw [tr_cat]; exact hv) k) k
theorem j_dup_x1 {v w : Value} (hd : decode M.2.1 pc = .ok (.dup_x1, 1)) (hv : v.category = 1) (hw : w.category = 1) (k : J M d (pc + 1) ls (v :: w :: v :: st) h o h') : J M d pc ls (v :: w :: st) h o h' :=
  J_st (fun Γ p l e R s m args below meth c A Q H locs cells slots ad lsr C WH S L k => lv_dup_x1 C.1 C.2.1 hd (by rw [tr_cat]; exact hv) (by rw [tr_cat]; exact hw) k) k
theorem j_dup2 {v w : Value} (hd : decode M.2.1 pc = .ok (.dup2, 1)) (hv : v.category = 1) (hw : w.category = 1) (k : J M d (pc + 1) ls (v :: w :: v :: w :: st) h o h') : J M d pc ls (v :: w :: st) h o h' :=
  J_st (fun Γ p l e R s m args below meth c A Q H locs cells slots ad lsr C WH S L k => lv_dup2_11 C.1 C.2.1 hd (by rw [tr_cat]; exact hv) (by rw [tr_cat]; exact hw) k) k
theorem j_goto {off : Int} {tgt : Nat} (hd : decode M.2.1 pc = .ok (.goto off, 3)) (ht : (pc : Int) + off = (tgt : Int)) (k : J M d tgt ls st h o h') : J M d pc ls st h o h' :=
  J_st (fun Γ p l e R s m args below meth c A Q H locs cells slots ad lsr C WH S L k => lv_goto C.1 C.2.1 hd ht k) k
theorem j_if_eq {x : Int32} {off : Int} {tgt : Nat} (hd : decode M.2.1 pc = .ok (.ifCond .eq off, 3)) (ht : (pc : Int) + off = (tgt : Int)) (k1 : x = 0 → J M d tgt ls st h o h') (k2 : ¬ (x = 0) → J M d (pc + 3) ls st h o h') : J M d pc ls (.int x :: st) h o h' :=
  J_br (fun p l e R s m args below meth c Q H locs cells slots Γ ad lsr hx hb k1 k2 => lv_if_eq hx hb hd ht k1 k2) k1 k2
theorem j_icmp_eq {x y : Int32} {off : Int} {tgt : Nat} (hd : decode M.2.1 pc = .ok (.if_icmp .eq off, 3)) (ht : (pc : Int) + off = (tgt : Int)) (k1 : x = y → J M d tgt ls st h o h') (k2 : ¬ (x = y) → J M d (pc + 3) ls st h o h') : J M d pc ls (.int y :: .int x :: st) h o h' :=
  J_br (fun p l e R s m args below meth c Q H locs cells slots Γ ad lsr hx hb k1 k2 => lv_icmp_eq hx hb hd ht k1 k2) k1 k2
theorem j_if_ne {x : Int32} {off : Int} {tgt : Nat} (hd : decode M.2.1 pc = .ok (.ifCond .ne off, 3)) (ht : (pc : Int) + off = (tgt : Int)) (k1 : ¬ x = 0 → J M d tgt ls st h o h') (k2 : x = 0 → J M d (pc + 3) ls st h o h') : J M d pc ls (.int x :: st) h o h' :=
  J_br (P := x = 0) (fun p l e R s m args below meth c Q H locs cells slots Γ ad lsr hx hb k1 k2 => lv_if_ne hx hb hd ht k2 k1) k2 k1
theorem j_icmp_ne {x y : Int32} {off : Int} {tgt : Nat} (hd : decode M.2.1 pc = .ok (.if_icmp .ne off, 3)) (ht : (pc : Int) + off = (tgt : Int)) (k1 : ¬ x = y → J M d tgt ls st h o h') (k2 : x = y → J M d (pc + 3) ls st h o h') : J M d pc ls (.int y :: .int x :: st) h o h' :=
  J_br (P := x = y) (fun p l e R s m args below meth c Q H locs cells slots Γ ad lsr hx hb k1 k2 => lv_icmp_ne hx hb hd ht k2 k1) k2 k1
theorem j_if_lt {x : Int32} {off : Int} {tgt : Nat} (hd : decode M.2.1 pc = .ok (.ifCond .lt off, 3)) (ht : (pc : Int) + off = (tgt : Int)) (k1 : x < 0 → J M d tgt ls st h o h') (k2 : ¬ (x < 0) → J M d (pc + 3) ls st h o h') : J M d pc ls (.int x :: st) h o h' :=
  J_br (fun p l e R s m args below meth c Q H locs cells slots Γ ad lsr hx hb k1 k2 => lv_if_lt hx hb hd ht k1 k2) k1 k2
theorem j_icmp_lt {x y : Int32} {off : Int} {tgt : Nat} (hd : decode M.2.1 pc = .ok (.if_icmp .lt off, 3)) (ht : (pc : Int) + off = (tgt : Int)) (k1 : x < y → J M d tgt ls st h o h') (k2 : ¬ (x < y) → J M d (pc + 3) ls st h o h') : J M d pc ls (.int y :: .int x :: st) h o h' :=
  J_br (fun p l e R s m args below meth c Q H locs cells slots Γ ad lsr hx hb k1 k2 => lv_icmp_lt hx hb hd ht k1 k2) k1 k2
theorem j_if_ge {x : Int32} {off : Int} {tgt : Nat} (hd : decode M.2.1 pc = .ok (.ifCond .ge off, 3)) (ht : (pc : Int) + off = (tgt : Int)) (k1 : 0 ≤ x → J M d tgt ls st h o h') (k2 : ¬ (0 ≤ x) → J M d (pc + 3) ls st h o h') : J M d pc ls (.int x :: st) h o h' :=
  J_br (fun p l e R s m args below meth c Q H locs cells slots Γ ad lsr hx hb k1 k2 => lv_if_ge hx hb hd ht k1 k2) k1 k2
theorem j_icmp_ge {x y : Int32} {off : Int} {tgt : Nat} (hd : decode M.2.1 pc = .ok (.if_icmp .ge off, 3)) (ht : (pc : Int) + off = (tgt : Int)) (k1 : y ≤ x → J M d tgt ls st h o h') (k2 : ¬ (y ≤ x) → J M d (pc + 3) ls st h o h') : J M d pc ls (.int y :: .int x :: st) h o h' :=
  J_br (fun p l e R s m args below meth c Q H locs cells slots Γ ad lsr hx hb k1 k2 => lv_icmp_ge hx hb hd ht k1 k2) k1 k2
theorem j_if_gt {x : Int32} {off : Int} {tgt : Nat} (hd : decode M.2.1 pc = .ok (.ifCond .gt off, 3)) (ht : (pc : Int) + off = (tgt : Int)) (k1 : 0 < x → J M d tgt ls st h o h') (k2 : ¬ (0 < x) → J M d (pc + 3) ls st h o h') : J M d pc ls (.int x :: st) h o h' :=
  J_br (fun p l e R s m args below meth c Q H locs cells slots Γ ad lsr hx hb k1 k2 => lv_if_gt hx hb hd ht k1 k2) k1 k2
theorem j_icmp_gt {x y : Int32} {off : Int} {tgt : Nat} (hd : decode M.2.1 pc = .ok (.if_icmp .gt off, 3)) (ht : (pc : Int) + off = (tgt : Int)) (k1 : y < x → J M d tgt ls st h o h') (k2 : ¬ (y < x) → J M d (pc + 3) ls st h o h') : J M d pc ls (.int y :: .int x :: st) h o h' :=
  J_br (fun p l e R s m args below meth c Q H locs cells slots Γ ad lsr hx hb k1 k2 => lv_icmp_gt hx hb hd ht k1 k2) k1 k2
theorem j_if_le {x : Int32} {off : Int} {tgt : Nat} (hd : decode M.2.1 pc = .ok (.ifCond .le off, 3)) (ht : (pc : Int) + off = (tgt : Int)) (k1 : x ≤ 0 → J M d tgt ls st h o h') (k2 : ¬ (x ≤ 0) → J M d (pc + 3) ls st h o h') : J M d pc ls (.int x :: st) h o h' :=
  J_br (fun p l e R s m args below meth c Q H locs cells slots Γ ad lsr hx hb k1 k2 => lv_if_le hx hb hd ht k1 k2) k1 k2
theorem j_icmp_le {x y : Int32} {off : Int} {tgt : Nat} (hd : decode M.2.1 pc = .ok (.if_icmp .le off, 3)) (ht : (pc : Int) + off = (tgt : Int)) (k1 : x ≤ y → J M d tgt ls st h o h') (k2 : ¬ (x ≤ y) → J M d (pc + 3) ls st h o h') : J M d pc ls (.int y :: .int x :: st) h o h' :=
  J_br (fun p l e R s m args below meth c Q H locs cells slots Γ ad lsr hx hb k1 k2 => lv_icmp_le hx hb hd ht k1 k2) k1 k2
theorem j_ifnonnull {x : Nat} {off : Int} {tgt : Nat} (hd : decode M.2.1 pc = .ok (.ifnonnull off, 3)) (ht : (pc : Int) + off = (tgt : Int)) (k : J M d tgt ls st h o h') : J M d pc ls (.ref x :: st) h o h' :=
  J_st (fun Γ p l e R s m args below meth c A Q H locs cells slots ad lsr C WH S L k => lv_ifnonnull C.1 C.2.1 hd ht k) k
theorem j_ifnonnullC {x : Nat} {off : Int} {tgt : Nat} (hd : decode M.2.1 pc = .ok (.ifnonnull off, 3)) (ht : (pc : Int) + off = (tgt : Int)) (k : J M d tgt ls st h o h') : J M d pc ls (.retAddr x :: st) h o h' :=
  J_st (fun Γ p l e R s m args below meth c A Q H locs cells slots ad lsr C WH S L k => lv_ifnonnull C.1 C.2.1 hd ht k) k
theorem j_ifnonnullN {off : Int} (hd : decode M.2.1 pc = .ok (.ifnonnull off, 3)) (k : J M d (pc + 3) ls st h o h') : J M d pc ls (.null :: st) h o h' :=
  J_st (fun Γ p l e R s m args below meth c A Q H locs cells slots ad lsr C WH S L k => lv_ifnonnullN C.1 C.2.1 hd k) k
theorem j_ifnull {x : Nat} {off : Int} (hd : decode M.2.1 pc = .ok (.ifnull off, 3)) (k : J M d (pc + 3) ls st h o h') : J M d pc ls (.ref x :: st) h o h' :=
  J_st (fun Γ p l e R s m args below meth c A Q H locs cells slots ad lsr C WH S L k => lv_ifnull C.1 C.2.1 hd k) k
theorem j_ifnullC {x : Nat} {off : Int} (hd : decode M.2.1 pc = .ok (.ifnull off, 3)) (k : J M d (pc + 3) ls st h o h') : J M d pc ls (.retAddr x :: st) h o h' :=
  J_st (fun Γ p l e R s m args below meth c A Q H locs cells slots ad lsr C WH S L k => lv_ifnull C.1 C.2.1 hd k) k
theorem j_ifnullN {off : Int} {tgt : Nat} (hd : decode M.2.1 pc = .ok (.ifnull off, 3)) (ht : (pc : Int) + off = (tgt : Int)) (k : J M d tgt ls st h o h') : J M d pc ls (.null :: st) h o h' :=
  J_st (fun Γ p l e R s m args below meth c A Q H locs cells slots ad lsr C WH S L k => lv_ifnullN C.1 C.2.1 hd ht k) k
theorem j_tsOut {dflt lo hi : Int} {offs : Array Int} {len : Nat} {x : Int32} {tgt : Nat} (hd : decode M.2.1 pc = .ok (.tableswitch dflt lo hi offs, len)) (hx : x.toInt < lo ∨ hi < x.toInt) (ht : (pc : Int) + dflt = (tgt : Int)) (k : J M d tgt ls st h o h') : J M d pc ls (.int x :: st) h o h' :=
  J_st (fun Γ p l e R s m args below meth c A Q H locs cells slots ad lsr C WH S L k => lv_tableOut C.1 C.2.1 hd hx ht k) k
theorem j_tsIn {dflt lo hi : Int} {offs : Array Int} {len : Nat} {x : Int32} {off : Int} {tgt : Nat} (hd : decode M.2.1 pc = .ok (.tableswitch dflt lo hi offs, len)) (h1 : ¬ x.toInt < lo) (h2 : ¬ hi < x.toInt) (ho : offs[(x.toInt - lo).toNat]? = some off) (ht : (pc : Int) + off = (tgt : Int)) (k : J M d tgt ls st h o h') : J M d pc ls (.int x :: st) h o h' :=
  J_st (fun Γ p l e R s m args below meth c A Q H locs cells slots ad lsr C WH S L k => lv_tableIn C.1 C.2.1 hd h1 h2 ho ht k) k
theorem j_istore_n {i : Fin 4} {x : Int32} {ls' : List (Option Value)} (hd : decode M.2.1 pc = .ok (.istore_n i, 1)) (hi : (i : Nat) < M.2.2) (hno : noL ls (i : Nat) = true) (hl : ls.set (i : Nat) (some (.int x)) = ls') (k : J M d (pc + 1) ls' st h o h') : J M d pc ls (.int x :: st) h o h' := by
  subst hl
  exact J_sl (fun Γ p l e R s m args below meth c A Q H locs cells slots ad lsr C L k => lv_istore_n C.1 C.2.1 hd rfl L.has hi rfl (fun lsr' z => k lsr' (L.set1 (v := .int x) hi hno z))) k
theorem j_istore {i : Nat} {x : Int32} {ls' : List (Option Value)} (hd : decode M.2.1 pc = .ok (.istore i, 2)) (hi : i < M.2.2) (hno : noL ls i = true) (hl : ls.set i (some (.int x)) = ls') (k : J M d (pc + 2) ls' st h o h') : J M d pc ls (.int x :: st) h o h' := by
  subst hl
  exact J_sl (fun Γ p l e R s m args below meth c A Q H locs cells slots ad lsr C L k => lv_istore C.1 C.2.1 hd L.has hi rfl (fun lsr' z => k lsr' (L.set1 (v := .int x) hi hno z))) k
theorem j_lstore_n {i : Fin 4} {x : Int64} {ls' : List (Option Value)} (hd : decode M.2.1 pc = .ok (.lstore_n i, 1)) (hi : (i : Nat) + 1 < M.2.2) (hno : noL ls (i : Nat) = true) (hl : (ls.set ((i : Nat) + 1) none).set (i : Nat) (some (.long x)) = ls') (k : J M d (pc + 1) ls' st h o h') : J M d pc ls (.long x :: st) h o h' := by
  subst hl
  exact J_sl (fun Γ p l e R s m args below meth c A Q H locs cells slots ad lsr C L k => lv_lstore_n C.1 C.2.1 hd rfl L.has hi rfl (fun lsr' z => k lsr' (L.set2 (v := .long x) hi hno z))) k
theorem j_lstore {i : Nat} {x : Int64} {ls' : List (Option Value)} (hd : decode M.2.1 pc = .ok (.lstore i, 2)) (hi : i + 1 < M.2.2) (hno : noL ls i = true) (hl : (ls.set (i + 1) none).set i (some (.long x)) = ls') (k : J M d (pc + 2) ls' st h o h') : J M d pc ls (.long x :: st) h o h' := by
  subst hl
  exact J_sl (fun Γ p l e R s m args below meth c A Q H locs cells slots ad lsr C L k => lv_lstore C.1 C.2.1 hd L.has hi rfl (fun lsr' z => k lsr' (L.set2 (v := .long x) hi hno z))) k
theorem j_astore_n {i : Fin 4} {x : Nat} {ls' : List (Option Value)} (hd : decode M.2.1 pc = .ok (.astore_n i, 1)) (hi : (i : Nat) < M.2.2) (hno : noL ls (i : Nat) = true) (hl : ls.set (i : Nat) (some (.ref x)) = ls') (k : J M d (pc + 1) ls' st h o h') : J M d pc ls (.ref x :: st) h o h' := by
  subst hl
  exact J_sl (fun Γ p l e R s m args below meth c A Q H locs cells slots ad lsr C L k => lv_astore_n C.1 C.2.1 hd rfl L.has hi rfl (fun lsr' z => k lsr' (L.set1 (v := .ref x) hi hno z))) k
theorem j_astore_nC {i : Fin 4} {x : Nat} {ls' : List (Option Value)} (hd : decode M.2.1 pc = .ok (.astore_n i, 1)) (hi : (i : Nat) < M.2.2) (hno : noL ls (i : Nat) = true) (hl : ls.set (i : Nat) (some (.retAddr x)) = ls') (k : J M d (pc + 1) ls' st h o h') : J M d pc ls (.retAddr x :: st) h o h' := by
  subst hl
  exact J_sl (fun Γ p l e R s m args below meth c A Q H locs cells slots ad lsr C L k => lv_astore_n C.1 C.2.1 hd rfl L.has hi rfl (fun lsr' z => k lsr' (L.set1 (v := .retAddr x) hi hno z))) k
theorem j_astore_nN {i : Fin 4}  {ls' : List (Option Value)} (hd : decode M.2.1 pc = .ok (.astore_n i, 1)) (hi : (i : Nat) < M.2.2) (hno : noL ls (i : Nat) = true) (hl : ls.set (i : Nat) (some (.null)) = ls') (k : J M d (pc + 1) ls' st h o h') : J M d pc ls (.null :: st) h o h' := by
  subst hl
  exact J_sl (fun Γ p l e R s m args below meth c A Q H locs cells slots ad lsr C L k => lv_astore_nN C.1 C.2.1 hd rfl L.has hi rfl (fun lsr' z => k lsr' (L.set1 (v := .null) hi hno z))) k
theorem j_astore {i : Nat} {x : Nat} {ls' : List (Option Value)} (hd : decode M.2.1 pc = .ok (.astore i, 2)) (hi : i < M.2.2) (hno : noL ls i = true) (hl : ls.set i (some (.ref x)) = ls') (k : J M d (pc + 2) ls' st h o h') : J M d pc ls (.ref x :: st) h o h' := by
  subst hl
  exact J_sl (fun Γ p l e R s m args below meth c A Q H locs cells slots ad lsr C L k => lv_astore C.1 C.2.1 hd L.has hi rfl (fun lsr' z => k lsr' (L.set1 (v := .ref x) hi hno z))) k
theorem j_astoreC {i : Nat} {x : Nat} {ls' : List (Option Value)} (hd : decode M.2.1 pc = .ok (.astore i, 2)) (hi : i < M.2.2) (hno : noL ls i = true) (hl : ls.set i (some (.retAddr x)) = ls') (k : J M d (pc + 2) ls' st h o h') : J M d pc ls (.retAddr x :: st) h o h' := by
  subst hl
  exact J_sl (fun Γ p l e R s m args below meth c A Q H locs cells slots ad lsr C L k => lv_astore C.1 C.2.1 hd L.has hi rfl (fun lsr' z => k lsr' (L.set1 (v := .retAddr x) hi hno z))) k
theorem j_astoreN {i : Nat}  {ls' : List (Option Value)} (hd : decode M.2.1 pc = .ok (.astore i, 2)) (hi : i < M.2.2) (hno : noL ls i = true) (hl : ls.set i (some (.null)) = ls') (k : J M d (pc + 2) ls' st h o h') : J M d pc ls (.null :: st) h o h' := by
  subst hl
  exact J_sl (fun Γ p l e R s m args below meth c A Q H locs cells slots ad lsr C L k => lv_astoreN C.1 C.2.1 hd L.has hi rfl (fun lsr' z => k lsr' (L.set1 (v := .null) hi hno z))) k
theorem j_iinc {i : Nat} {n : Int} {x v : Int32} {ls' : List (Option Value)} (hd : decode M.2.1 pc = .ok (.iinc i n, 3)) (hx : ls[i]? = some (some (.int x))) (hi : i < M.2.2) (hno : noL ls i = true) (hv : x + Int32.ofInt n = v) (hl : ls.set i (some (.int v)) = ls') (k : J M d (pc + 3) ls' st h o h') : J M d pc ls st h o h' := by
  subst hl
  refine J_sl (fun Γ p l e R s m args below meth c A Q H locs cells slots ad lsr C L k => ?_) k
  obtain ⟨kk, hkk⟩ := List.mem_iff_getElem?.mp (lsl_mem (Γ := Γ) (ad := ad) (nL := M.2.2) hx hi)
  exact lv_iinc C.1 C.2.1 hd L.has hkk hv hi rfl (fun lsr' z => k lsr' (L.set1 (v := .int v) hi hno z))
end JRules
