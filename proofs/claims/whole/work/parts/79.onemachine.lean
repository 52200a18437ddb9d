/-! the rules once more, for ONE machine's side: what the script holds can be named -/
def JG (Γ : GA) (M : JM) (d pc : Nat) (ls : List (Option Value)) (st : List Value) (h : PH) (o : Option Value) (h' : PH) : Prop :=
  (hn h ≤ hn h' ∧ hs h ≤ hs h') ∧
  ∀ (p : Program) (l : Launch) (e : Env) (R : Room) (s : State) (m : MethodId) (args : Array Value) (below : List Frame) (meth : Method) (c : Code) (A : Nat → Prop) (Q : State → Prop) (H : Heap) (locs : List Loc) (cells slots : Nat) (ad : Nat → Nat) (lsr : Array Slot),
    JCx Γ M d p R s m args meth c A → WW Γ A ad h H → va_S A s.heap H locs → LR Γ ad M.2.2 ls lsr → cells + (hn h' - hn h) ≤ R.cells → slots + (hs h' - hs h) ≤ R.slots →
    (∀ (H1 : Heap) (locs1 : List Loc) (ad1 : Nat → Nat) (pc1 : Nat) (ls1 : Array Slot), RetAt M.2.1 pc1 o → AdE ad ad1 h h' → WW Γ A ad1 h' H1 → va_S A s.heap H1 locs1 → W p l e R s m args below meth c H1 locs1 (cells + (hn h' - hn h)) (slots + (hs h' - hs h)) Q (F0 m pc1 ls1 (o.toList.map (tr Γ ad1)))) →
    W p l e R s m args below meth c H locs cells slots Q (F0 m pc lsr (st.map (tr Γ ad)))
section GR
variable {Γ : GA} {M : JM} {d pc : Nat} {ls : List (Option Value)} {st st0 : List Value} {h h1 : PH} {o : Option Value} {h' : PH}
theorem G_st {pc' : Nat} {st' : List Value}
    (hW : ∀ (p : Program) (l : Launch) (e : Env) (R : Room) (s : State) (m : MethodId) (args : Array Value) (below : List Frame) (meth : Method) (c : Code) (A : Nat → Prop) (Q : State → Prop) (H : Heap) (locs : List Loc) (cells slots : Nat) (ad : Nat → Nat) (lsr : Array Slot), JCx Γ M d p R s m args meth c A → WW Γ A ad h H → va_S A s.heap H locs → LR Γ ad M.2.2 ls lsr → W p l e R s m args below meth c H locs cells slots Q (F0 m pc' lsr (st'.map (tr Γ ad))) → W p l e R s m args below meth c H locs cells slots Q (F0 m pc lsr (st.map (tr Γ ad))))
    (k : JG Γ M d pc' ls st' h o h') : JG Γ M d pc ls st h o h' :=
  ⟨k.1, fun p l e R s m args below meth c A Q H locs cells slots ad lsr hC hWW hS hL h1 h2 hK => hW p l e R s m args below meth c A Q H locs cells slots ad lsr hC hWW hS hL (k.2 p l e R s m args below meth c A Q H locs cells slots ad lsr hC hWW hS hL h1 h2 hK)⟩
theorem G_sl {pc' : Nat} {st' : List Value} {ls' : List (Option Value)}
    (hW : ∀ (p : Program) (l : Launch) (e : Env) (R : Room) (s : State) (m : MethodId) (args : Array Value) (below : List Frame) (meth : Method) (c : Code) (A : Nat → Prop) (Q : State → Prop) (H : Heap) (locs : List Loc) (cells slots : Nat) (ad : Nat → Nat) (lsr : Array Slot), JCx Γ M d p R s m args meth c A → LR Γ ad M.2.2 ls lsr → (∀ lsr' : Array Slot, LR Γ ad M.2.2 ls' lsr' → W p l e R s m args below meth c H locs cells slots Q (F0 m pc' lsr' (st'.map (tr Γ ad)))) → W p l e R s m args below meth c H locs cells slots Q (F0 m pc lsr (st.map (tr Γ ad))))
    (k : JG Γ M d pc' ls' st' h o h') : JG Γ M d pc ls st h o h' :=
  ⟨k.1, fun p l e R s m args below meth c A Q H locs cells slots ad lsr hC hWW hS hL h1 h2 hK => hW p l e R s m args below meth c A Q H locs cells slots ad lsr hC hL (fun lsr' hL' => k.2 p l e R s m args below meth c A Q H locs cells slots ad lsr' hC hWW hS hL' h1 h2 hK)⟩
theorem G_br {P : Prop} {pc1 pc2 : Nat} {st' : List Value}
    (hW : ∀ (p : Program) (l : Launch) (e : Env) (R : Room) (s : State) (m : MethodId) (args : Array Value) (below : List Frame) (meth : Method) (c : Code) (Q : State → Prop) (H : Heap) (locs : List Loc) (cells slots : Nat) (ad : Nat → Nat) (lsr : Array Slot), p.tables.exec = Jvm.exec → c.code = M.2.1 → (P → W p l e R s m args below meth c H locs cells slots Q (F0 m pc1 lsr (st'.map (tr Γ ad)))) → (¬ P → W p l e R s m args below meth c H locs cells slots Q (F0 m pc2 lsr (st'.map (tr Γ ad)))) → W p l e R s m args below meth c H locs cells slots Q (F0 m pc lsr (st.map (tr Γ ad))))
    (k1 : P → JG Γ M d pc1 ls st' h o h') (k2 : ¬ P → JG Γ M d pc2 ls st' h o h') : JG Γ M d pc ls st h o h' :=
  ⟨(Classical.em P).elim (fun q => (k1 q).1) (fun q => (k2 q).1), fun p l e R s m args below meth c A Q H locs cells slots ad lsr hC hWW hS hL h1 h2 hK => hW p l e R s m args below meth c Q H locs cells slots ad lsr hC.1 hC.2.1 (fun q => (k1 q).2 p l e R s m args below meth c A Q H locs cells slots ad lsr hC hWW hS hL h1 h2 hK) (fun q => (k2 q).2 p l e R s m args below meth c A Q H locs cells slots ad lsr hC hWW hS hL h1 h2 hK)⟩
theorem G_ret {o : Option Value} (hd : RetAt M.2.1 pc o) : JG Γ M d pc ls o.toList h o h :=
  ⟨⟨Nat.le_refl _, Nat.le_refl _⟩, fun p l e R s m args below meth c A Q H locs cells slots ad lsr hC hWW hS hL h1 h2 hK => by
    have k := hK H locs ad pc lsr hd (fun _ _ => rfl) hWW hS
    rw [Nat.sub_self, Nat.sub_self, Nat.add_zero, Nat.add_zero] at k
    exact k⟩
theorem g_iret {v : Int32} (hd : decode M.2.1 pc = .ok (.ireturn, 1)) : JG Γ M d pc ls [.int v] h (some (.int v)) h := G_ret (o := some (.int v)) hd
theorem g_drop {ls' : List (Option Value)} (hs : lsub ls ls') (k : JG Γ M d pc ls' st h o h') : JG Γ M d pc ls st h o h' :=
  ⟨k.1, fun p l e R s m args below meth c A Q H locs cells slots ad lsr hC hWW hS hL h1 h2 hK => k.2 p l e R s m args below meth c A Q H locs cells slots ad lsr hC hWW hS (hL.sub (lsub_get hs).1 (lsub_get hs).2) h1 h2 hK⟩
theorem g_iconst {n : Int} {v : Int32} (hd : decode M.2.1 pc = .ok (.iconst n, 1)) (hv : Int32.ofInt n = v) (k : JG Γ M d (pc + 1) ls (.int v :: st) h o h') : JG Γ M d pc ls (st) h o h' :=
  G_st (fun p l e R s m args below meth c A Q H locs cells slots ad lsr C WH S L k => lv_iconst C.1 C.2.1 hd hv k) k
theorem g_bipush {n : Int} {v : Int32} (hd : decode M.2.1 pc = .ok (.bipush n, 2)) (hv : (Int8.ofInt n).toInt32 = v) (k : JG Γ M d (pc + 2) ls (.int v :: st) h o h') : JG Γ M d pc ls (st) h o h' :=
  G_st (fun p l e R s m args below meth c A Q H locs cells slots ad lsr C WH S L k => lv_bipush C.1 C.2.1 hd hv k) k
theorem g_ldc2 {i : Nat} {v : Int64} (hd : decode M.2.1 pc = .ok (.ldc2_w i, 3)) (hc : Cond.constantLong M.1.cls i v ∈ gtbl) (k : JG Γ M d (pc + 3) ls (.long v :: st) h o h') : JG Γ M d pc ls (st) h o h' :=
  G_st (fun p l e R s m args below meth c A Q H locs cells slots ad lsr C WH S L k => lv_ldc2 C.1 C.2.1 C.2.2.2.1 (C.2.2.2.2.1 _ hc) hd k) k
theorem g_iload_n {i : Fin 4} {x : Int32} (hd : decode M.2.1 pc = .ok (.iload_n i, 1)) (hl : ls[(i : Nat)]? = some (some (.int x))) (k : JG Γ M d (pc + 1) ls (.int x :: st) h o h') : JG Γ M d pc ls (st) h o h' :=
  G_st (fun p l e R s m args below meth c A Q H locs cells slots ad lsr C WH S L k => lv_iload_n C.1 C.2.1 hd rfl (L.2.2.2 _ _ hl) k) k
theorem g_aload_n {i : Fin 4} {x : Nat} (hd : decode M.2.1 pc = .ok (.aload_n i, 1)) (hl : ls[(i : Nat)]? = some (some (.ref x))) (k : JG Γ M d (pc + 1) ls (.ref x :: st) h o h') : JG Γ M d pc ls (st) h o h' :=
  G_st (fun p l e R s m args below meth c A Q H locs cells slots ad lsr C WH S L k => lv_aload_n C.1 C.2.1 hd rfl (L.2.2.2 _ _ hl) k) k
theorem g_aload_nC {i : Fin 4} {x : Nat} (hd : decode M.2.1 pc = .ok (.aload_n i, 1)) (hl : ls[(i : Nat)]? = some (some (.retAddr x))) (k : JG Γ M d (pc + 1) ls (.retAddr x :: st) h o h') : JG Γ M d pc ls (st) h o h' :=
  G_st (fun p l e R s m args below meth c A Q H locs cells slots ad lsr C WH S L k => lv_aload_n C.1 C.2.1 hd rfl (L.2.2.2 _ _ hl) k) k
theorem g_iadd {x y : Int32} (hd : decode M.2.1 pc = .ok (.iadd, 1))  (k : JG Γ M d (pc + 1) ls (.int (x + y) :: st) h o h') : JG Γ M d pc ls (.int y :: .int x :: st) h o h' :=
  G_st (fun p l e R s m args below meth c A Q H locs cells slots ad lsr C WH S L k => lv_iadd C.1 C.2.1 hd k) k
theorem g_isub {x y : Int32} (hd : decode M.2.1 pc = .ok (.isub, 1))  (k : JG Γ M d (pc + 1) ls (.int (x - y) :: st) h o h') : JG Γ M d pc ls (.int y :: .int x :: st) h o h' :=
  G_st (fun p l e R s m args below meth c A Q H locs cells slots ad lsr C WH S L k => lv_isub C.1 C.2.1 hd k) k
theorem g_iand {x y : Int32} (hd : decode M.2.1 pc = .ok (.iand, 1))  (k : JG Γ M d (pc + 1) ls (.int (x &&& y) :: st) h o h') : JG Γ M d pc ls (.int y :: .int x :: st) h o h' :=
  G_st (fun p l e R s m args below meth c A Q H locs cells slots ad lsr C WH S L k => lv_iand C.1 C.2.1 hd k) k
theorem g_i2l {x : Int32} (hd : decode M.2.1 pc = .ok (.i2l, 1))  (k : JG Γ M d (pc + 1) ls (.long x.toInt64 :: st) h o h') : JG Γ M d pc ls (.int x :: st) h o h' :=
  G_st (fun p l e R s m args below meth c A Q H locs cells slots ad lsr C WH S L k => lv_i2l C.1 C.2.1 hd rfl k) k
theorem g_land {x y : Int64} (hd : decode M.2.1 pc = .ok (.land, 1))  (k : JG Γ M d (pc + 1) ls (.long (x &&& y) :: st) h o h') : JG Γ M d pc ls (.long y :: .long x :: st) h o h' :=
  G_st (fun p l e R s m args below meth c A Q H locs cells slots ad lsr C WH S L k => lv_land C.1 C.2.1 hd k) k
theorem g_lor {x y : Int64} (hd : decode M.2.1 pc = .ok (.lor, 1))  (k : JG Γ M d (pc + 1) ls (.long (x ||| y) :: st) h o h') : JG Γ M d pc ls (.long y :: .long x :: st) h o h' :=
  G_st (fun p l e R s m args below meth c A Q H locs cells slots ad lsr C WH S L k => lv_lor C.1 C.2.1 hd k) k
theorem g_lshl {x : Int64} {y : Int32} (hd : decode M.2.1 pc = .ok (.lshl, 1))  (k : JG Γ M d (pc + 1) ls (.long (x <<< (y.toInt64 &&& 63)) :: st) h o h') : JG Γ M d pc ls (.int y :: .long x :: st) h o h' :=
  G_st (fun p l e R s m args below meth c A Q H locs cells slots ad lsr C WH S L k => lv_lshl C.1 C.2.1 hd rfl k) k
theorem g_lcmp {x y : Int64} (hd : decode M.2.1 pc = .ok (.lcmp, 1))  (k : JG Γ M d (pc + 1) ls (.int (lg_cmp x y) :: st) h o h') : JG Γ M d pc ls (.long y :: .long x :: st) h o h' :=
  G_st (fun p l e R s m args below meth c A Q H locs cells slots ad lsr C WH S L k => W.lcmp C.1 C.2.1 hd k) k
theorem g_dup {v : Value} (hd : decode M.2.1 pc = .ok (.dup, 1)) (hv : v.category = 1) (k : JG Γ M d (pc + 1) ls (v :: v :: st) h o h') : JG Γ M d pc ls (v :: st) h o h' :=
  G_st (fun p l e R s m args below meth c A Q H locs cells slots ad lsr C WH S L k => lv_dup C.1 C.2.1 hd (by rw [tr_cat]; exact hv) k) k
theorem g_goto {off : Int} {tgt : Nat} (hd : decode M.2.1 pc = .ok (.goto off, 3)) (ht : (pc : Int) + off = (tgt : Int)) (k : JG Γ M d tgt ls st h o h') : JG Γ M d pc ls st h o h' :=
  G_st (fun p l e R s m args below meth c A Q H locs cells slots ad lsr C WH S L k => lv_goto C.1 C.2.1 hd ht k) k
theorem g_if_eq {x : Int32} {off : Int} {tgt : Nat} (hd : decode M.2.1 pc = .ok (.ifCond .eq off, 3)) (ht : (pc : Int) + off = (tgt : Int)) (k1 : x = 0 → JG Γ M d tgt ls st h o h') (k2 : ¬ (x = 0) → JG Γ M d (pc + 3) ls st h o h') : JG Γ M d pc ls (.int x :: st) h o h' :=
  G_br (fun p l e R s m args below meth c Q H locs cells slots ad lsr hx hb k1 k2 => lv_if_eq hx hb hd ht k1 k2) k1 k2
theorem g_if_ne {x : Int32} {off : Int} {tgt : Nat} (hd : decode M.2.1 pc = .ok (.ifCond .ne off, 3)) (ht : (pc : Int) + off = (tgt : Int)) (k1 : ¬ x = 0 → JG Γ M d tgt ls st h o h') (k2 : x = 0 → JG Γ M d (pc + 3) ls st h o h') : JG Γ M d pc ls (.int x :: st) h o h' :=
  G_br (P := x = 0) (fun p l e R s m args below meth c Q H locs cells slots ad lsr hx hb k1 k2 => lv_if_ne hx hb hd ht k2 k1) k2 k1
theorem g_icmp_eq {x y : Int32} {off : Int} {tgt : Nat} (hd : decode M.2.1 pc = .ok (.if_icmp .eq off, 3)) (ht : (pc : Int) + off = (tgt : Int)) (k1 : x = y → JG Γ M d tgt ls st h o h') (k2 : ¬ (x = y) → JG Γ M d (pc + 3) ls st h o h') : JG Γ M d pc ls (.int y :: .int x :: st) h o h' :=
  G_br (fun p l e R s m args below meth c Q H locs cells slots ad lsr hx hb k1 k2 => lv_icmp_eq hx hb hd ht k1 k2) k1 k2
theorem g_icmp_ne {x y : Int32} {off : Int} {tgt : Nat} (hd : decode M.2.1 pc = .ok (.if_icmp .ne off, 3)) (ht : (pc : Int) + off = (tgt : Int)) (k1 : ¬ x = y → JG Γ M d tgt ls st h o h') (k2 : x = y → JG Γ M d (pc + 3) ls st h o h') : JG Γ M d pc ls (.int y :: .int x :: st) h o h' :=
  G_br (P := x = y) (fun p l e R s m args below meth c Q H locs cells slots ad lsr hx hb k1 k2 => lv_icmp_ne hx hb hd ht k2 k1) k2 k1
theorem g_icmp_gt {x y : Int32} {off : Int} {tgt : Nat} (hd : decode M.2.1 pc = .ok (.if_icmp .gt off, 3)) (ht : (pc : Int) + off = (tgt : Int)) (k1 : y < x → JG Γ M d tgt ls st h o h') (k2 : ¬ (y < x) → JG Γ M d (pc + 3) ls st h o h') : JG Γ M d pc ls (.int y :: .int x :: st) h o h' :=
  G_br (fun p l e R s m args below meth c Q H locs cells slots ad lsr hx hb k1 k2 => lv_icmp_gt hx hb hd ht k1 k2) k1 k2
theorem g_tsOut {dflt lo hi : Int} {offs : Array Int} {len : Nat} {x : Int32} {tgt : Nat} (hd : decode M.2.1 pc = .ok (.tableswitch dflt lo hi offs, len)) (hx : x.toInt < lo ∨ hi < x.toInt) (ht : (pc : Int) + dflt = (tgt : Int)) (k : JG Γ M d tgt ls st h o h') : JG Γ M d pc ls (.int x :: st) h o h' :=
  G_st (fun p l e R s m args below meth c A Q H locs cells slots ad lsr C WH S L k => lv_tableOut C.1 C.2.1 hd hx ht k) k
theorem g_tsIn {dflt lo hi : Int} {offs : Array Int} {len : Nat} {x : Int32} {off : Int} {tgt : Nat} (hd : decode M.2.1 pc = .ok (.tableswitch dflt lo hi offs, len)) (h1 : ¬ x.toInt < lo) (h2 : ¬ hi < x.toInt) (ho : offs[(x.toInt - lo).toNat]? = some off) (ht : (pc : Int) + off = (tgt : Int)) (k : JG Γ M d tgt ls st h o h') : JG Γ M d pc ls (.int x :: st) h o h' :=
  G_st (fun p l e R s m args below meth c A Q H locs cells slots ad lsr C WH S L k => lv_tableIn C.1 C.2.1 hd h1 h2 ho ht k) k
theorem g_istore_n {i : Fin 4} {x : Int32} {ls' : List (Option Value)} (hd : decode M.2.1 pc = .ok (.istore_n i, 1)) (hi : (i : Nat) < M.2.2) (hno : noL ls (i : Nat) = true) (hl : ls.set (i : Nat) (some (.int x)) = ls') (k : JG Γ M d (pc + 1) ls' st h o h') : JG Γ M d pc ls (.int x :: st) h o h' := by
  subst hl
  exact G_sl (fun p l e R s m args below meth c A Q H locs cells slots ad lsr C L k => lv_istore_n C.1 C.2.1 hd rfl L.has hi rfl (fun lsr' z => k lsr' (L.set1 (v := .int x) hi hno z))) k
theorem g_astore_n {i : Fin 4} {x : Nat} {ls' : List (Option Value)} (hd : decode M.2.1 pc = .ok (.astore_n i, 1)) (hi : (i : Nat) < M.2.2) (hno : noL ls (i : Nat) = true) (hl : ls.set (i : Nat) (some (.ref x)) = ls') (k : JG Γ M d (pc + 1) ls' st h o h') : JG Γ M d pc ls (.ref x :: st) h o h' := by
  subst hl
  exact G_sl (fun p l e R s m args below meth c A Q H locs cells slots ad lsr C L k => lv_astore_n C.1 C.2.1 hd rfl L.has hi rfl (fun lsr' z => k lsr' (L.set1 (v := .ref x) hi hno z))) k
theorem g_iinc {i : Nat} {n : Int} {x v : Int32} {ls' : List (Option Value)} (hd : decode M.2.1 pc = .ok (.iinc i n, 3)) (hx : ls[i]? = some (some (.int x))) (hi : i < M.2.2) (hno : noL ls i = true) (hv : x + Int32.ofInt n = v) (hl : ls.set i (some (.int v)) = ls') (k : JG Γ M d (pc + 3) ls' st h o h') : JG Γ M d pc ls st h o h' := by
  subst hl
  refine G_sl (fun p l e R s m args below meth c A Q H locs cells slots ad lsr C L k => ?_) k
  obtain ⟨kk, hkk⟩ := List.mem_iff_getElem?.mp (lsl_mem (Γ := Γ) (ad := ad) (nL := M.2.2) hx hi)
  exact lv_iinc C.1 C.2.1 hd L.has hkk hv hi rfl (fun lsr' z => k lsr' (L.set1 (v := .int v) hi hno z))
theorem G_call {My : JM} {ret : Option FieldType} {ov : Option Value} {as : List Value} (hM : JMt My ret d as h ov h1) (hE : hn h1 = hn h ∨ VA (hn h) ls st)
    (hW : ∀ (p : Program) (l : Launch) (e : Env) (R : Room) (s : State) (m : MethodId) (args : Array Value) (below : List Frame) (meth : Method) (c : Code) (A : Nat → Prop) (Q : State → Prop) (H : Heap) (locs : List Loc) (cells slots : Nat) (ad : Nat → Nat) (lsr : Array Slot), JCx Γ M (d + 1) p R s m args meth c A → WW Γ A ad h H → lsr.size = M.2.2 →
      (∀ U : State, U.heap = H → s.WarmedH U.vm → PcJ Γ ad H.size h as (as.map (tr Γ ad)).toArray U) → cells + (hn h1 - hn h) ≤ R.cells → slots + (hs h1 - hs h) ≤ R.slots →
      va_Run p l e R s m args below meth c H locs cells slots (hn h1 - hn h) (hs h1 - hs h) (F0 m pc lsr (st0.map (tr Γ ad))) (st.map (tr Γ ad)) (QcJ Γ ad H.size h ov h1 (as.map (tr Γ ad)).toArray) (va_A (wsG Γ ad h) H.size))
    (k : JG Γ M (d + 1) (pc + 3) ls (ov.toList ++ st) h1 o h') : JG Γ M (d + 1) pc ls st0 h o h' := by
  obtain ⟨m1, m2⟩ := hM.1
  obtain ⟨k1, k2⟩ := k.1
  refine ⟨⟨Nat.le_trans m1 k1, Nat.le_trans m2 k2⟩, fun p l e R s m args below meth c A Q H locs cells slots ad lsr hC hWW hS hL c1 c2 hK => ?_⟩
  have hfr := va_A_in hWW.2.1 hS hC.2.2.2.2.2.2.2.2.2.1
  refine W_call (hW p l e R s m args below meth c A Q H locs cells slots ad lsr hC hWW hL.1 (fun U hU hWm => ?_) (by omega) (by omega)) hS hfr (fun ad1 H1 locs1 g1 g2 g3 => ?_)
  · exact ⟨rfl, by rw [hU], ⟨by rw [hU]; exact hWW.1, hWW.2.1.weaken (fun _ _ _ _ => trivial), hWW.2.2⟩, KF.move hWm hC.2.2.2.2.2.1, CF.move hC.2.2.2.2.2.2.1 hWm (fun q z1 z2 => by rw [hU]; exact hS.2.1 q z1 z2) hfr⟩
  · have hEa : (∀ i, i < hn h → ad1 i = ad i) := fun i hi => g1 i (Or.inl hi)
    have key : LR Γ ad1 M.2.2 ls lsr ∧ (st.map (tr Γ ad1)) = st.map (tr Γ ad) := by
      rcases hE with hE | hE
      · have : ad1 = ad := by
          funext i
          rcases Nat.lt_or_ge i (hn h) with z | z
          · exact g1 i (Or.inl z)
          · exact g1 i (Or.inr (by omega))
        subst this
        exact ⟨hL, rfl⟩
      · exact ⟨hL.ad hEa hE.1, map_ad hEa hE.2⟩
    have e1 : cells + (hn h1 - hn h) + (hn h' - hn h1) = cells + (hn h' - hn h) := by omega
    have e2 : slots + (hs h1 - hs h) + (hs h' - hs h1) = slots + (hs h' - hs h) := by omega
    have := k.2 p l e R s m args below meth c A Q H1 locs1 (cells + (hn h1 - hn h)) (slots + (hs h1 - hs h)) ad1 lsr hC g2 g3 key.1 (by omega) (by omega) (fun H2 locs2 ad2 pc2 ls2 r1 r2 r3 r4 => by
      rw [e1, e2]
      exact hK H2 locs2 ad2 pc2 ls2 r1 (fun i hi => (r2 i (by omega)).trans (g1 i (by omega))) r3 r4)
    rw [List.map_append, key.2] at this
    rw [show (ov.map (tr Γ ad1)).toList = ov.toList.map (tr Γ ad1) by cases ov <;> rfl]
    exact this
theorem g_callV {My : JM} {ret : Option FieldType} {ov : Option Value} {as : List Value} {n idx b t len : Nat} (hd : decode M.2.1 pc = .ok (.invokevirtual idx, 3)) (hl : MLk M.1.cls idx My.1) (hm : MI My.1 My.2.1 My.2.2 ret n) (hv : MV My.1) (hM : JMt My ret d (.ref b :: as) h ov h1) (hn' : as.length = n) (hst : (st.map fun v => v.category).sum ≤ 8) (hs0 : st0 = as.reverse ++ .ref b :: st) (hg : hG h b = (t, len)) (ht : t < 9) (hcl : clsR t = My.1.cls) (hE : hn h1 = hn h ∨ VA (hn h) ls st) (k : JG Γ M (d + 1) (pc + 3) ls (ov.toList ++ st) h1 o h') : JG Γ M (d + 1) pc ls st0 h o h' := by
  subst hs0
  refine G_call hM hE (fun p l e R s m args below meth c A Q H locs cells slots ad lsr C WH hsz hPc c1 c2 => ?_) k
  obtain ⟨hi, hT'⟩ := hG_lt hg (by omega)
  have hrec := va_recv (q := (clsR t, clsT t, fN t)) C.2.2.2.2.2.1.1 WH.1 (FC_ok t ht).1 (by rw [wsG_get hi, wcell_obj hT' ht])
  have hst' : ((as.reverse ++ .ref b :: st).map (tr Γ ad)) = (as.map (tr Γ ad)).reverse ++ .ref (ad b) :: st.map (tr Γ ad) := by simp [tr]
  have hroom : 2 * (F0 m pc lsr (st.map (tr Γ ad))).monitorRoom + ((st.map (tr Γ ad)).map fun v => v.category).sum ≤ 8 := lv_room (by rw [cat_ad]; exact hst)
  rcases hl with hl | ⟨host, hl⟩
  · exact va_runV (fixJ C) (hM.2 l Γ ad H.size) (cwV n C.2.2.2.2.1 (fun w hw => by
      rcases List.mem_append.mp hw with hw | hw
      · have : w ∈ gtbl := by
          simp only [List.mem_cons, List.not_mem_nil, or_false] at hw
          rcases hw with rfl | rfl | rfl | rfl
          · exact hl
          · exact hv.1
          · exact hv.2
          · exact hm.2.1
        exact ⟨this, good_of_word (gtbl_in this).2⟩
      · exact gtbl_code hm.1 w hw) rfl rfl rfl ⟨rfl, hm.2.2.1.1, hm.2.2.1.2.1, hm.2.2.1.2.2⟩ (roomJ_ok C hm.2.2.2.2)) ⟨blindJ, by rw [← hcl]; exact hrec, hPc⟩ rfl (by rw [List.length_map]; exact hn') hsz (by rw [hst']) hroom hd ⟨c1, c2⟩
  · exact va_runVN (C := My.1.cls) (fixJ C) (hM.2 l Γ ad H.size) ⟨va_cnB n C.2.2.2.2.1 (gtbl_code hm.1) rfl rfl rfl (C.2.2.2.2.2.1.2.1 _ hl) (C.2.2.2.2.1 _ hm.2.1) hm.2.2.1 (roomJ_ok C hm.2.2.2.2), C.2.2.2.2.1 _ hv.1, C.2.2.2.2.1 _ hv.2⟩ ⟨blindJ, by rw [← hcl]; exact hrec, hPc⟩ rfl (by rw [List.length_map]; exact hn') hsz (by rw [hst']) hroom hd ⟨c1, c2⟩
theorem g_callI {My : JM} {as : List Value} {n idx b : Nat} (hd : decode M.2.1 pc = .ok (.invokespecial idx, 3)) (hl : MLk M.1.cls idx My.1) (hm : MI My.1 My.2.1 My.2.2 none n) (hv : Cond.instanceMethod My.1 ∈ gtbl) (hy : My.1.name = "<init>") (hM : JMt My none d (.ref b :: as) h none h1) (hn' : as.length = n) (hst : (st.map fun v => v.category).sum ≤ 8) (hs0 : st0 = as.reverse ++ .ref b :: st) (hE : hn h1 = hn h ∨ VA (hn h) ls st) (k : JG Γ M (d + 1) (pc + 3) ls st h1 o h') : JG Γ M (d + 1) pc ls st0 h o h' := by
  subst hs0
  refine G_call hM hE (fun p l e R s m args below meth c A Q H locs cells slots ad lsr C WH hsz hPc c1 c2 => ?_) k
  have hst' : ((as.reverse ++ .ref b :: st).map (tr Γ ad)) = (as.map (tr Γ ad)).reverse ++ .ref (ad b) :: st.map (tr Γ ad) := by simp [tr]
  have hroom : 2 * (F0 m pc lsr (st.map (tr Γ ad))).monitorRoom + ((st.map (tr Γ ad)).map fun v => v.category).sum ≤ 8 := lv_room (by rw [cat_ad]; exact hst)
  rcases hl with hl | ⟨host, hl⟩
  · exact va_runI (fixJ C) (hM.2 l Γ ad H.size) (cwI n C.2.2.2.2.1 (gtbl_code hm.1) rfl rfl rfl (C.2.2.2.2.1 _ hm.2.1) (C.2.2.2.2.1 _ hl) (C.2.2.2.2.1 _ hv) hy hm.2.2.1 (roomJ_ok C hm.2.2.2.2)) ⟨blindJ, hPc⟩ rfl (by rw [List.length_map]; exact hn') hsz (by rw [hst']) hroom hd ⟨c1, c2⟩
  · exact va_runIN (fixJ C) (hM.2 l Γ ad H.size) ⟨va_cnB n C.2.2.2.2.1 (gtbl_code hm.1) rfl rfl rfl (C.2.2.2.2.2.1.2.1 _ hl) (C.2.2.2.2.1 _ hm.2.1) hm.2.2.1 (roomJ_ok C hm.2.2.2.2), hy, C.2.2.2.2.1 _ hv⟩ ⟨blindJ, hPc⟩ rfl (by rw [List.length_map]; exact hn') hsz (by rw [hst']) hroom hd ⟨c1, c2⟩
theorem G_al {t n w pc' : Nat} {st0 : List Value} (hV : VA (hn h) ls st)
    (hW : ∀ (p : Program) (l : Launch) (e : Env) (R : Room) (s : State) (m : MethodId) (args : Array Value) (below : List Frame) (meth : Method) (c : Code) (A : Nat → Prop) (Q : State → Prop) (H : Heap) (locs : List Loc) (cells slots : Nat) (ad : Nat → Nat) (lsr : Array Slot), JCx Γ M d p R s m args meth c A → WW Γ A ad h H → va_S A s.heap H locs → cells + 1 ≤ R.cells → slots + w ≤ R.slots →
      (∀ (q : Nat) (H1 : Heap), va_P Γ.1 cls (wsG Γ ad h ++ [(q, wcell Γ ad (newC h t n w) (hn h))]) H1 → va_D A (wsG Γ ad h ++ [(q, wcell Γ ad (newC h t n w) (hn h))]) → va_S A s.heap H1 locs → W p l e R s m args below meth c H1 locs (cells + 1) (slots + w) Q (F0 m pc' lsr (.ref q :: st.map (tr Γ ad)))) → W p l e R s m args below meth c H locs cells slots Q (F0 m pc lsr (st0.map (tr Γ ad))))
    (k : JG Γ M d pc' ls (.ref (hn h) :: st) (newC h t n w) o h') : JG Γ M d pc ls st0 h o h' := by
  obtain ⟨⟨k1, k2⟩, k⟩ := k
  have k1' : hn h + 1 ≤ hn h' := k1
  have k2' : hs h + w ≤ hs h' := k2
  refine ⟨⟨by omega, by omega⟩, fun p l e R s m args below meth c A Q H locs cells slots ad lsr hC hWW hS hL c1 c2 hK => ?_⟩
  refine hW p l e R s m args below meth c A Q H locs cells slots ad lsr hC hWW hS (by omega) (by omega) (fun q H1 a b cS => ?_)
  have hE : ∀ i, i < hn h → (if i = hn h then q else ad i) = ad i := fun i hi => if_neg (Nat.ne_of_lt hi)
  have e1 : cells + 1 + (hn h' - hn (newC h t n w)) = cells + (hn h' - hn h) := by show cells + 1 + (hn h' - (hn h + 1)) = _; omega
  have e2 : slots + w + (hs h' - hs (newC h t n w)) = slots + (hs h' - hs h) := by show slots + w + (hs h' - (hs h + w)) = _; omega
  have := k p l e R s m args below meth c A Q H1 locs (cells + 1) (slots + w) (fun i => if i = hn h then q else ad i) lsr hC ⟨by rw [wsG_new hWW.2.2]; exact a, by rw [wsG_new hWW.2.2]; exact b, hwf_new hWW.2.2⟩ cS (hL.ad hE hV.1) (by omega) (by omega) (fun H2 locs2 ad2 pc2 ls2 r1 r2 r3 r4 => by
    rw [e1, e2]
    refine hK H2 locs2 ad2 pc2 ls2 r1 (fun i hi => ?_) r3 r4
    have hne : i ≠ hn h := by omega
    refine (r2 i (by show i < hn h + 1 ∨ hn h' ≤ i; omega)).trans ?_
    exact if_neg hne)
  rw [List.map_cons, map_ad hE hV.2] at this
  rw [show tr Γ (fun i => if i = hn h then q else ad i) (.ref (hn h)) = .ref q by simp [tr]] at this
  exact this
theorem g_new {idx t : Nat} (hd : decode M.2.1 pc = .ok (.new idx, 3)) (ht : t < 9) (hcl : Cond.classLink M.1.cls idx (clsR t) ∈ gtbl) (hinst : Cond.instantiable (clsR t) (fN t) ∈ gtbl) (hini : Cond.initialized (clsR t) ∈ gtbl) (hV : VA (hn h) ls st) (k : JG Γ M d (pc + 3) ls (.ref (hn h) :: st) (newC h t (fN t) (fN t)) o h') : JG Γ M d pc ls st h o h' := by
  refine G_al hV (fun p l e R s m args below meth c A Q H locs cells slots ad lsr C WH S c1 c2 kk => ?_) k
  obtain ⟨f1, f2, f3, f4⟩ := FC_ok t ht
  have hT' : hT (newC h t (fN t) (fN t)) (hn h) = (t, fN t) := if_pos rfl
  have ew := wcell_obj (Γ := Γ) (ad := ad) hT' ht
  refine va_new C.1 C.2.1 C.2.2.2.2.1 f2 (fT t) f3 C.2.2.2.1 (C.2.2.2.2.1 _ hcl) (C.2.2.2.2.1 _ hinst) (C.2.2.2.2.1 _ hini) C.2.2.2.2.2.1.1 WH.1 WH.2.1 S C.2.2.2.2.2.2.2.2.2.1 f1 (fs := (List.range (fN t)).map (fval ad (newC h t (fN t) (fN t)) (hn h) t)) (fun j hj => ?_) c1 c2 hd (fun q H1 a b cS => by rw [ew] at kk; exact kk q H1 a b cS)
  rw [dflt_ok t ht j hj]
  have er : hR (newC h t (fN t) (fN t)) (hn h) j = none := if_pos rfl
  have ei : hI (newC h t (fN t) (fN t)) (hn h) j = 0 := if_pos rfl
  have e0 : vp_V ((List.range (fN t)).map (fval ad (newC h t (fN t) (fN t)) (hn h) t)) j = fval ad (newC h t (fN t) (fN t)) (hn h) t j := by simp [vp_V, hj]
  rw [e0, fval, er, ei]
  rfl
/-- an int of the script -/
theorem g_sld {x : Int32} (hd : decode M.2.1 pc = .ok (.iaload, 1)) (hin : vp_in x Γ.2.2.2.1) (k1 : JG Γ M d (pc + 1) ls (.int (Γ.2.2.2.2 x.toNatClampNeg) :: st) h o h') : JG Γ M d pc ls (.int x :: .retAddr 5 :: st) h o h' :=
  G_st (fun p l e R s m args below meth c A Q H locs cells slots ad lsr C WH S L kk => va_ti C.1 C.2.1 (C.2.2.2.2.2.2.1.2.1 5 (by omega)) S (by rw [clen, if_neg (by omega)]; exact hin) (v := .int (Γ.2.2.2.2 x.toNatClampNeg)) (by rw [ctab, if_neg (by omega)]) hd kk) k1
theorem g_slen (hd : decode M.2.1 pc = .ok (.arraylength, 1)) (k1 : JG Γ M d (pc + 1) ls (.int (Int32.ofNat Γ.2.2.2.1) :: st) h o h') : JG Γ M d pc ls (.retAddr 5 :: st) h o h' :=
  G_st (fun p l e R s m args below meth c A Q H locs cells slots ad lsr C WH S L kk => by
    obtain ⟨cell, g1, g2, g3, g4, g5, g6, g7⟩ := C.2.2.2.2.2.2.1.2.1 5 (by omega)
    exact W.alen (n := Int32.ofNat Γ.2.2.2.1) C.1 C.2.1 (by rw [S.2.1 _ (Array.getElem?_eq_some_iff.mp g1).1 g7]; exact g1) g2 (by rw [g5, clen, if_neg (by omega)]) rfl rfl hd kk) k1
end GR
