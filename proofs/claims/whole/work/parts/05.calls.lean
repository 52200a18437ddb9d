/-! CALLS: a method's contract over pure heaps, how it is had of J, how it is used -/
def PcJ (Γ : GA) (ad : Nat → Nat) (sz : Nat) (h : PH) (as : List Value) : Array Value → State → Prop := fun v U => v = (as.map (tr Γ ad)).toArray ∧ U.heap.size = sz ∧ WW Γ (fun _ => True) ad h U.heap ∧ KF Γ U ∧ CF Γ (va_A (wsG Γ ad h) sz) U
def QcJ (Γ : GA) (ad : Nat → Nat) (sz : Nat) (h : PH) (o : Option Value) (h' : PH) : Array Value → State → Outcome → State → Prop := fun _ st oc t => ∃ ad1 : Nat → Nat, oc = .returned (o.map (tr Γ ad1)) ∧ AdE ad ad1 h h' ∧ WW Γ (va_A (wsG Γ ad h) sz) ad1 h' t.heap ∧ va_F (va_A (wsG Γ ad h) sz) st t
def roomJ (d mc ms : Nat) : Room := { frames := d, cells := mc, slots := ms, locals := 36 * d }
def JMt (M : JM) (ret : Option FieldType) (d : Nat) (as : List Value) (h : PH) (o : Option Value) (h' : PH) : Prop :=
  (hn h ≤ hn h' ∧ hs h ≤ hs h') ∧ ∀ (l : Launch) (Γ : GA) (ad : Nat → Nat) (sz : Nat), Met l M.1 (Cond.code M.1 M.2.1 M.2.2 ret :: gtbl) (roomJ d (hn h' - hn h) (hs h' - hs h)) (PcJ Γ ad sz h as) (QcJ Γ ad sz h o h') (hn h' - hn h) (hs h' - hs h) (va_A (wsG Γ ad h) sz)
theorem nest_move {s U : State} (hW : s.WarmedH U.vm) {w : Cond} (hn : isNest w = true) (h : va_Nw w s) : va_Nw w U := by
  cases w <;> first | exact va_Nw.warmF hW h | exact va_Nw.warmM hW h | cases hn
theorem va_AOA.moved {ty : FieldType} {u U : State} (hvm : u.vm.Alike U.vm) (h : va_AOA ty u) : va_AOA ty U := by
  have e := Cond.arrayOver_setVmC (args := #[]) (s := u) hvm (.array ty)
  have k : (Cond.arrayOver (.array ty)).before #[] (u.setVm U.vm) = true := e.trans h
  exact k
theorem KF.move {Γ : GA} {s U : State} (hW : s.WarmedH U.vm) (h : KF Γ s) : KF Γ U :=
  ⟨va_K.moved hW.alike h.1, fun w hw => nest_move hW (List.mem_filter.mp hw).2 (h.2.1 w hw), va_AO.moved hW.alike h.2.2.1, va_AOA.moved hW.alike h.2.2.2.1, va_AOA.moved hW.alike h.2.2.2.2⟩
theorem KF.same {Γ : GA} {s U : State} (hv : s.vm = U.vm) (h : KF Γ s) : KF Γ U := by
  have ha : s.vm.Alike U.vm := by rw [hv]; exact Vm.Alike.refl _
  refine ⟨va_K.moved ha h.1, fun w hw => ?_, va_AO.moved ha h.2.2.1, va_AOA.moved ha h.2.2.2.1, va_AOA.moved ha h.2.2.2.2⟩
  have hn := (List.mem_filter.mp hw).2
  have h0 := h.2.1 w hw
  cases w <;> first | exact va_Nw.same rfl hv h0 | cases hn
theorem CF.same {Γ : GA} {A : Nat → Prop} {s U : State} (hv : s.vm = U.vm) (hh : U.heap = s.heap) (h : CF Γ A s) : CF Γ A U := by
  have ha : s.vm.Alike U.vm := by rw [hv]; exact Vm.Alike.refl _
  obtain ⟨h1, h2, h3, h4, h5⟩ := h
  refine ⟨fun k hk => by rw [hh]; exact va_Z.moved ha (h1 k hk), fun k hk => by rw [hh]; exact va_T.moved ha (h2 k hk), fun i hi => ?_, by rw [hh]; exact va_Z.moved ha h4, by rw [hh]; exact h5.elim (fun z => Or.inl (va_Z.moved ha z)) (fun z => Or.inr (va_Z.moved ha z))⟩
  obtain ⟨g1, g2, g3, g4, g5⟩ := h3 i hi
  rw [hh]
  exact ⟨g1.same hv.symm, va_O.moved ha g2, va_OF.moved ha g3, va_OF.moved ha g4, va_T.moved ha g5⟩
theorem blindJ {Γ : GA} {ad : Nat → Nat} {sz : Nat} {h : PH} {as : List Value} : FrameBlind (PcJ Γ ad sz h as) := fun a U g mk q => by
  obtain ⟨q1, q2, q3, q4, q5⟩ := q
  exact ⟨q1, q2, q3, KF.same (s := U) (U := U.calling g mk a) rfl q4, CF.same (s := U) (U := U.calling g mk a) rfl rfl q5⟩
/-- the locals with which a method begins -/
def flatL (as : List Value) : List (Option Value) := as.flatMap fun v => if v.category = 2 then [some v, none] else [some v]
def entL (as : List Value) (n : Nat) : List (Option Value) := flatL as ++ List.replicate (n - (flatL as).length) none
theorem flat_len (Γ : GA) (ad : Nat → Nat) : ∀ as : List Value, (lg_sl (as.map (tr Γ ad))).length = (flatL as).length
  | [] => rfl
  | v :: vs => by
    have ih := flat_len Γ ad vs
    unfold lg_sl flatL at *
    rw [List.map_cons, List.flatMap_cons, List.flatMap_cons, List.length_append, List.length_append, ih, tr_cat]
    by_cases hc : v.category = 2 <;> simp [hc]
theorem flat_args (Γ : GA) (ad : Nat → Nat) : ∀ (as : List Value) (i k : Nat) (v : Value), (flatL as)[i]? = some (some v) → (k + i, tr Γ ad v) ∈ lv_args k (as.map (tr Γ ad))
  | [], i, k, v, h => by simp [flatL] at h
  | w :: ws, i, k, v, h => by
    have ih := flat_args Γ ad ws
    rw [List.map_cons]
    unfold flatL at h
    rw [List.flatMap_cons] at h
    unfold lv_args
    rw [tr_cat]
    by_cases hc : w.category = 2
    · rw [if_pos hc] at h ⊢
      match i, h with
      | 0, h => cases h; exact List.mem_cons_self
      | 1, h => cases h
      | j + 2, h =>
        refine List.mem_cons_of_mem _ ?_
        have := ih j (k + 2) v h
        rw [show k + (j + 2) = k + 2 + j by omega]
        exact this
    · rw [if_neg hc] at h ⊢
      match i, h with
      | 0, h => cases h; exact List.mem_cons_self
      | j + 1, h =>
        refine List.mem_cons_of_mem _ ?_
        have := ih j (k + 1) v h
        rw [show k + (j + 1) = k + 1 + j by omega]
        exact this
theorem LR_entry {Γ : GA} {ad : Nat → Nat} {as : List Value} {n : Nat} (hl : (flatL as).length ≤ n) : LR Γ ad n (entL as n) ((lg_sl (as.map (tr Γ ad)) ++ List.replicate (n - (lg_sl (as.map (tr Γ ad))).length) Slot.unset).toArray) := by
  obtain ⟨h1, h2, h3⟩ := lv_entry (as.map (tr Γ ad)) (n := n) (by rw [flat_len]; exact hl)
  refine ⟨h1, h2, by simp [entL]; omega, fun i v hv => ?_⟩
  unfold entL at hv
  by_cases hi : i < (flatL as).length
  · rw [List.getElem?_append_left hi] at hv
    have := h3 _ (flat_args Γ ad as i 0 v hv)
    rw [Nat.zero_add] at this
    exact this
  · rw [List.getElem?_append_right (by omega), List.getElem?_replicate] at hv
    split at hv <;> cases hv
/-- an answer of a method's return type -/
def RetT (ret : Option FieldType) (o : Option Value) : Prop := match o with
  | none => ret = none
  | some (.int v) => ∃ ty, ret = some ty ∧ narrow ty (.int v) = .int v
  | some (.long _) => ret = some .long
  | some .null => ∃ ty, ret = some ty ∧ ((∃ n, ty = .object n) ∨ ∃ t, ty = .array t)
  | some (.ref _) => ∃ ty, ret = some ty ∧ ((∃ n, ty = .object n) ∨ ∃ t, ty = .array t)
  | _ => False
theorem jm {M : JM} {ret : Option FieldType} {n d : Nat} {as : List Value} {h : PH} {o : Option Value} {h' : PH} (hm : MI M.1 M.2.1 M.2.2 ret n) (hl : (flatL as).length ≤ M.2.2) (hr : RetT ret o) {ls : List (Option Value)} (he : entL as M.2.2 = ls) (k : J M d 0 ls [] h o h') : JMt M ret d as h o h' := by
  subst he
  obtain ⟨m1, m2, m3, m4, m5⟩ := hm
  refine ⟨k.1, fun l Γ ad sz => Met.ofW (ws' := gtbl) (cc := M.2.1) (maxL := M.2.2) (ret := ret) m4 rfl ?_⟩
  intro p e s m args below meth c s₁ B hml hP
  obtain ⟨rfl, hsz, hWW, hKF, hCF⟩ := hP
  have hts : ∀ w ∈ gtbl, w.before (as.map (tr Γ ad)).toArray s = true := fun w hw => atoms_spec (ws := Cond.code M.1 M.2.1 M.2.2 ret :: gtbl) B.pre w (List.mem_cons_of_mem _ hw)
  have hA : ∀ q, s.heap.size ≤ q → va_A (wsG Γ ad h) sz q := fun q hq => Or.inr (by rw [← hsz]; exact hq)
  rw [lg_entry_eq]
  have hC : JCx Γ M d p (headSpec (Cond.code M.1 M.2.1 M.2.2 ret :: gtbl) (roomJ d (hn h' - hn h) (hs h' - hs h))).room s m (as.map (tr Γ ad)).toArray meth c (va_A (wsG Γ ad h) sz) :=
    ⟨B.exec, B.bytes, hml, findClass_of_methodNamed B.named, hts, hKF, hCF, Nat.le_refl d, Nat.le_refl (36 * d), hA, (name_of_methodNamed B.named B.method).1⟩
  have hD : WW Γ (va_A (wsG Γ ad h) sz) ad h s.heap := ⟨hWW.1, hWW.2.1.self, hWW.2.2⟩
  have hlk := B.notSynchronized
  refine k.2 Γ p l e _ s m _ below meth c _ _ s.heap [] 0 0 ad _ hC hD va_S.rf (LR_entry hl) (by rw [Nat.zero_add]; exact Nat.le_refl _) (by rw [Nat.zero_add]; exact Nat.le_refl _) (fun H1 locs1 ad1 pc1 ls1 r1 r2 r3 r4 => ?_)
  have hq : ∀ t : State, t.heap = H1 → QcJ Γ ad sz h o h' (as.map (tr Γ ad)).toArray s (.returned (o.map (tr Γ ad1))) t := fun t ht => ⟨ad1, rfl, r2, by rw [ht]; exact r3, r4.F ht⟩
  rw [Nat.zero_add, Nat.zero_add]
  match o, r1, hr, hq with
  | none, r1, hr, hq => exact W.vret B.exec B.bytes (B.returns.trans hr) (fun t ht _ => hq t ht) r4.2.2 r1 hlk
  | some (.int v), r1, hr, hq =>
    obtain ⟨ty, e1, e2⟩ := hr
    exact W.zret B.exec B.bytes (B.returns.trans e1) e2 (fun t ht _ => hq t ht) r4.2.2 r1 hlk
  | some (.long v), r1, hr, hq => exact W.lret B.exec B.bytes (B.returns.trans hr) (fun t ht _ => hq t ht) r4.2.2 r1 hlk
  | some .null, r1, hr, hq =>
    obtain ⟨ty, e1, e2⟩ := hr
    exact W.aret B.exec B.bytes (B.returns.trans e1) e2 (Or.inl rfl) (fun t ht _ => hq t ht) r4.2.2 r1 hlk
  | some (.ref v), r1, hr, hq =>
    obtain ⟨ty, e1, e2⟩ := hr
    exact W.aret B.exec B.bytes (B.returns.trans e1) e2 (Or.inr ⟨_, rfl⟩) (fun t ht _ => hq t ht) r4.2.2 r1 hlk
section JC
variable {p : Program} {l : Launch} {e : Env} {R : Room} {s : State} {m : MethodId} {args : Array Value} {below : List Frame} {meth : Method} {c : Code} {H : Heap} {locs : List Loc} {cells slots : Nat} {Q : State → Prop}
variable {Γ : GA} {A : Nat → Prop} {ad : Nat → Nat} {lsr : Array Slot} {rest st0 : List Value} {h h1 : PH} {ov : Option Value} {mc ms pc : Nat} {a : Array Value}
theorem W_call (hr : va_Run p l e R s m args below meth c H locs cells slots mc ms (F0 m pc lsr st0) rest (QcJ Γ ad H.size h ov h1 a) (va_A (wsG Γ ad h) H.size)) (hS : va_S A s.heap H locs) (hf : ∀ q, va_A (wsG Γ ad h) H.size q → A q)
    (kk : ∀ (ad1 : Nat → Nat) (H1 : Heap) (locs1 : List Loc), AdE ad ad1 h h1 → WW Γ A ad1 h1 H1 → va_S A s.heap H1 locs1 → W p l e R s m args below meth c H1 locs1 (cells + mc) (slots + ms) Q (F0 m (pc + 3) lsr ((ov.map (tr Γ ad1)).toList ++ rest))) : W p l e R s m args below meth c H locs cells slots Q (F0 m pc lsr st0) := by
  intro T hT X
  obtain ⟨v, st₀, t, T', L, h0, X', hL, e1, e2, ⟨ad1, hv, g1, g2, hz, hk⟩, st⟩ := hr T hT X
  cases hv
  rw [h0] at hz hk
  obtain ⟨t2, a1, b1⟩ := kk ad1 T'.heap (locs ++ L) g1 ⟨by rw [e1]; exact g2.1, g2.2.1.weaken (fun _ q _ z => hf q.1 z), g2.2.2⟩
    ⟨Nat.le_trans hS.1 (by rw [e1]; exact hz), fun q h1 h2 => by rw [e1, hk q (Nat.lt_of_lt_of_le h1 hS.1) (fun z => h2 (hf q z))]; exact hS.2.1 q h1 h2, fun q hq => by
      rcases List.mem_append.mp hq with h | h
      · exact hS.2.2 q h
      · exact hf _ (hL q h)⟩ T' rfl X'
  exact ⟨t2, st t2 a1, b1⟩
end JC
theorem va_A_in {Γ : GA} {A : Nat → Prop} {ad : Nat → Nat} {h : PH} {H0 H : Heap} {locs : List Loc} (hD : va_D A (wsG Γ ad h)) (hS : va_S A H0 H locs) (hA : ∀ q, H0.size ≤ q → A q) : ∀ q, va_A (wsG Γ ad h) H.size q → A q := by
  rintro q (⟨k, e, hk⟩ | hq)
  · exact hD.2 k _ hk
  · exact hA q (Nat.le_trans hS.1 hq)
/-- every reference among locals and stack names a cell below n -/
def okv (n : Nat) : Value → Prop
  | .ref i => i < n
  | _ => True
def VA (n : Nat) (ls : List (Option Value)) (st : List Value) : Prop := (∀ v, some v ∈ ls → okv n v) ∧ ∀ v ∈ st, okv n v
theorem tr_okv {Γ : GA} {ad ad1 : Nat → Nat} {n : Nat} (hE : ∀ i, i < n → ad1 i = ad i) {v : Value} (hv : okv n v) : tr Γ ad1 v = tr Γ ad v := by
  cases v <;> first | rfl | exact congrArg Value.ref (hE _ hv)
theorem LR.ad {Γ : GA} {ad ad1 : Nat → Nat} {n nL : Nat} {ls : List (Option Value)} {lsr : Array Slot} (hr : LR Γ ad nL ls lsr) (hE : ∀ i, i < n → ad1 i = ad i) (hV : ∀ v, some v ∈ ls → okv n v) : LR Γ ad1 nL ls lsr :=
  ⟨hr.1, hr.2.1, hr.2.2.1, fun i v hv => by rw [tr_okv hE (hV v (List.mem_of_getElem? hv))]; exact hr.2.2.2 i v hv⟩
theorem map_ad {Γ : GA} {ad ad1 : Nat → Nat} {n : Nat} {st : List Value} (hE : ∀ i, i < n → ad1 i = ad i) (hV : ∀ v ∈ st, okv n v) : st.map (tr Γ ad1) = st.map (tr Γ ad) :=
  List.map_congr_left fun v hv => tr_okv hE (hV v hv)
section JCall
variable {M : JM} {d pc : Nat} {ls : List (Option Value)} {st st0 : List Value} {h h1 : PH} {o : Option Value} {h' : PH}
/-- what lies behind a call -/
theorem J_call {My : JM} {ret : Option FieldType} {ov : Option Value} {as : List Value} (hM : JMt My ret d as h ov h1) (hE : hn h1 = hn h ∨ VA (hn h) ls st)
    (hW : ∀ (Γ : GA) (p : Program) (l : Launch) (e : Env) (R : Room) (s : State) (m : MethodId) (args : Array Value) (below : List Frame) (meth : Method) (c : Code) (A : Nat → Prop) (Q : State → Prop) (H : Heap) (locs : List Loc) (cells slots : Nat) (ad : Nat → Nat) (lsr : Array Slot), JCx Γ M (d + 1) p R s m args meth c A → WW Γ A ad h H → lsr.size = M.2.2 →
      (∀ U : State, U.heap = H → s.WarmedH U.vm → PcJ Γ ad H.size h as (as.map (tr Γ ad)).toArray U) → cells + (hn h1 - hn h) ≤ R.cells → slots + (hs h1 - hs h) ≤ R.slots →
      va_Run p l e R s m args below meth c H locs cells slots (hn h1 - hn h) (hs h1 - hs h) (F0 m pc lsr (st0.map (tr Γ ad))) (st.map (tr Γ ad)) (QcJ Γ ad H.size h ov h1 (as.map (tr Γ ad)).toArray) (va_A (wsG Γ ad h) H.size))
    (k : J M (d + 1) (pc + 3) ls (ov.toList ++ st) h1 o h') : J M (d + 1) pc ls st0 h o h' := by
  obtain ⟨m1, m2⟩ := hM.1
  obtain ⟨k1, k2⟩ := k.1
  refine ⟨⟨Nat.le_trans m1 k1, Nat.le_trans m2 k2⟩, fun Γ p l e R s m args below meth c A Q H locs cells slots ad lsr hC hWW hS hL c1 c2 hK => ?_⟩
  have hfr := va_A_in hWW.2.1 hS hC.2.2.2.2.2.2.2.2.2.1
  refine W_call (hW Γ p l e R s m args below meth c A Q H locs cells slots ad lsr hC hWW hL.1 (fun U hU hWm => ?_) (by omega) (by omega)) hS hfr (fun ad1 H1 locs1 g1 g2 g3 => ?_)
  · exact ⟨rfl, by rw [hU], ⟨by rw [hU]; exact hWW.1, hWW.2.1.weaken (fun _ _ _ _ => trivial), hWW.2.2⟩, KF.move hWm hC.2.2.2.2.2.1, CF.move hC.2.2.2.2.2.2.1 hWm (fun q z1 z2 => by rw [hU]; exact hS.2.1 q z1 z2) hfr⟩
  · have hEa : (∀ i, i < hn h → ad1 i = ad i) := fun i hi => g1 i (Or.inl hi)
    have key : LR Γ ad1 M.2.2 ls lsr ∧ (st.map (tr Γ ad1)) = st.map (tr Γ ad) := by
      rcases hE with hE | hE
      · have : ad1 = ad := by
          funext i
          rcases Nat.lt_or_ge i (hn h) with z | z
          · exact g1 i (Or.inl z)
          · exact g1 i (Or.inr (by omega))
        subst this
        exact ⟨hL, rfl⟩
      · exact ⟨hL.ad hEa hE.1, map_ad hEa hE.2⟩
    have e1 : cells + (hn h1 - hn h) + (hn h' - hn h1) = cells + (hn h' - hn h) := by omega
    have e2 : slots + (hs h1 - hs h) + (hs h' - hs h1) = slots + (hs h' - hs h) := by omega
    have := k.2 Γ p l e R s m args below meth c A Q H1 locs1 (cells + (hn h1 - hn h)) (slots + (hs h1 - hs h)) ad1 lsr hC g2 g3 key.1 (by omega) (by omega) (fun H2 locs2 ad2 pc2 ls2 r1 r2 r3 r4 => by
      rw [e1, e2]
      exact hK H2 locs2 ad2 pc2 ls2 r1 (fun i hi => (r2 i (by omega)).trans (g1 i (by omega))) r3 r4)
    rw [List.map_append, key.2] at this
    rw [show (ov.map (tr Γ ad1)).toList = ov.toList.map (tr Γ ad1) by cases ov <;> rfl]
    exact this
theorem fixJ {Γ : GA} {p : Program} {R : Room} {s : State} {m : MethodId} {args : Array Value} {meth : Method} {c : Code} {A : Nat → Prop} (C : JCx Γ M d p R s m args meth c A) : CallFix p m c M.2.1 M.2.2 s args gtbl M.1.cls := ⟨C.1, C.2.1, C.2.2.1, C.2.2.2.1, C.2.2.2.2.1⟩
theorem cat_ad {Γ : GA} {ad : Nat → Nat} (st : List Value) : ((st.map (tr Γ ad)).map fun v => v.category) = st.map fun v => v.category := by
  rw [List.map_map]
  exact List.map_congr_left fun v _ => tr_cat Γ ad v
theorem roomJ_ok {Γ : GA} {p : Program} {R : Room} {s : State} {m : MethodId} {args : Array Value} {meth : Method} {c : Code} {A : Nat → Prop} {maxL mc ms : Nat} (C : JCx Γ M (d + 1) p R s m args meth c A) (hm : maxL ≤ 17) : (roomJ d mc ms).frames + 1 ≤ R.frames ∧ 8 + (maxL + 11) + (roomJ d mc ms).locals ≤ R.locals := by
  obtain ⟨-, -, -, -, -, -, -, h1, h2, -⟩ := C
  refine ⟨h1, ?_⟩
  show 8 + (maxL + 11) + 36 * d ≤ R.locals
  omega
theorem j_callV {My : JM} {ret : Option FieldType} {ov : Option Value} {as : List Value} {n idx b t len : Nat} (hd : decode M.2.1 pc = .ok (.invokevirtual idx, 3)) (hl : MLk M.1.cls idx My.1) (hm : MI My.1 My.2.1 My.2.2 ret n) (hv : MV My.1) (hM : JMt My ret d (.ref b :: as) h ov h1) (hn' : as.length = n) (hst : (st.map fun v => v.category).sum ≤ 8) (hs0 : st0 = as.reverse ++ .ref b :: st) (hg : hG h b = (t, len)) (ht : t < 9) (hcl : clsR t = My.1.cls) (hE : hn h1 = hn h ∨ VA (hn h) ls st) (k : J M (d + 1) (pc + 3) ls (ov.toList ++ st) h1 o h') : J M (d + 1) pc ls st0 h o h' := by
  subst hs0
  refine J_call hM hE (fun Γ p l e R s m args below meth c A Q H locs cells slots ad lsr C WH hsz hPc c1 c2 => ?_) k
  obtain ⟨hi, hT'⟩ := hG_lt hg (by omega)
  have hrec := va_recv (q := (clsR t, clsT t, fN t)) C.2.2.2.2.2.1.1 WH.1 (FC_ok t ht).1 (by rw [wsG_get hi, wcell_obj hT' ht])
  have hst' : ((as.reverse ++ .ref b :: st).map (tr Γ ad)) = (as.map (tr Γ ad)).reverse ++ .ref (ad b) :: st.map (tr Γ ad) := by simp [tr]
  have hroom : 2 * (F0 m pc lsr (st.map (tr Γ ad))).monitorRoom + ((st.map (tr Γ ad)).map fun v => v.category).sum ≤ 8 := lv_room (by rw [cat_ad]; exact hst)
  rcases hl with hl | ⟨host, hl⟩
  · exact va_runV (fixJ C) (hM.2 l Γ ad H.size) (cwV n C.2.2.2.2.1 (fun w hw => by
      rcases List.mem_append.mp hw with hw | hw
      · have : w ∈ gtbl := by
          simp only [List.mem_cons, List.not_mem_nil, or_false] at hw
          rcases hw with rfl | rfl | rfl | rfl
          · exact hl
          · exact hv.1
          · exact hv.2
          · exact hm.2.1
        exact ⟨this, good_of_word (gtbl_in this).2⟩
      · exact gtbl_code hm.1 w hw) rfl rfl rfl ⟨rfl, hm.2.2.1.1, hm.2.2.1.2.1, hm.2.2.1.2.2⟩ (roomJ_ok C hm.2.2.2.2)) ⟨blindJ, by rw [← hcl]; exact hrec, hPc⟩ rfl (by rw [List.length_map]; exact hn') hsz (by rw [hst']) hroom hd ⟨c1, c2⟩
  · exact va_runVN (C := My.1.cls) (fixJ C) (hM.2 l Γ ad H.size) ⟨va_cnB n C.2.2.2.2.1 (gtbl_code hm.1) rfl rfl rfl (C.2.2.2.2.2.1.2.1 _ hl) (C.2.2.2.2.1 _ hm.2.1) hm.2.2.1 (roomJ_ok C hm.2.2.2.2), C.2.2.2.2.1 _ hv.1, C.2.2.2.2.1 _ hv.2⟩ ⟨blindJ, by rw [← hcl]; exact hrec, hPc⟩ rfl (by rw [List.length_map]; exact hn') hsz (by rw [hst']) hroom hd ⟨c1, c2⟩
theorem j_callS {My : JM} {ret : Option FieldType} {ov : Option Value} {as : List Value} {n idx : Nat} (hd : decode M.2.1 pc = .ok (.invokestatic idx, 3)) (hl : MLk M.1.cls idx My.1) (hm : MI My.1 My.2.1 My.2.2 ret n) (hv : MSt My.1) (hM : JMt My ret d as h ov h1) (hn' : as.length = n) (hst : (st.map fun v => v.category).sum ≤ 8) (hs0 : st0 = as.reverse ++ st) (hE : hn h1 = hn h ∨ VA (hn h) ls st) (k : J M (d + 1) (pc + 3) ls (ov.toList ++ st) h1 o h') : J M (d + 1) pc ls st0 h o h' := by
  subst hs0
  refine J_call hM hE (fun Γ p l e R s m args below meth c A Q H locs cells slots ad lsr C WH hsz hPc c1 c2 => ?_) k
  have hst' : ((as.reverse ++ st).map (tr Γ ad)) = (as.map (tr Γ ad)).reverse ++ st.map (tr Γ ad) := by simp
  have hroom : 2 * (F0 m pc lsr (st.map (tr Γ ad))).monitorRoom + ((st.map (tr Γ ad)).map fun v => v.category).sum ≤ 8 := lv_room (by rw [cat_ad]; exact hst)
  rcases hl with hl | ⟨host, hl⟩
  · exact va_runS (fixJ C) (hM.2 l Γ ad H.size) (va_cwS n C.2.2.2.2.1 (fun w hw => by
      rcases List.mem_append.mp hw with hw | hw
      · have : w ∈ gtbl := by
          simp only [List.mem_cons, List.not_mem_nil, or_false] at hw
          rcases hw with rfl | rfl | rfl
          · exact hl
          · exact hv
          · exact hm.2.1
        exact ⟨this, good_of_word (gtbl_in this).2⟩
      · exact gtbl_code hm.1 w hw) rfl rfl rfl hm.2.2.1 (roomJ_ok C hm.2.2.2.2)) ⟨blindJ, hPc⟩ rfl (by rw [List.length_map]; exact hn') hsz (by rw [hst']) hroom hd ⟨c1, c2⟩
  · exact va_runSN (fixJ C) (hM.2 l Γ ad H.size) ⟨va_cnB n C.2.2.2.2.1 (gtbl_code hm.1) rfl rfl rfl (C.2.2.2.2.2.1.2.1 _ hl) (C.2.2.2.2.1 _ hm.2.1) hm.2.2.1 (roomJ_ok C hm.2.2.2.2), C.2.2.2.2.1 _ hv, trivial⟩ ⟨blindJ, hPc⟩ rfl (by rw [List.length_map]; exact hn') hsz (by rw [hst']) hroom hd ⟨c1, c2⟩
theorem j_callI {My : JM} {as : List Value} {n idx b : Nat} (hd : decode M.2.1 pc = .ok (.invokespecial idx, 3)) (hl : MLk M.1.cls idx My.1) (hm : MI My.1 My.2.1 My.2.2 none n) (hv : Cond.instanceMethod My.1 ∈ gtbl) (hy : My.1.name = "<init>") (hM : JMt My none d (.ref b :: as) h none h1) (hn' : as.length = n) (hst : (st.map fun v => v.category).sum ≤ 8) (hs0 : st0 = as.reverse ++ .ref b :: st) (hE : hn h1 = hn h ∨ VA (hn h) ls st) (k : J M (d + 1) (pc + 3) ls st h1 o h') : J M (d + 1) pc ls st0 h o h' := by
  subst hs0
  refine J_call hM hE (fun Γ p l e R s m args below meth c A Q H locs cells slots ad lsr C WH hsz hPc c1 c2 => ?_) k
  have hst' : ((as.reverse ++ .ref b :: st).map (tr Γ ad)) = (as.map (tr Γ ad)).reverse ++ .ref (ad b) :: st.map (tr Γ ad) := by simp [tr]
  have hroom : 2 * (F0 m pc lsr (st.map (tr Γ ad))).monitorRoom + ((st.map (tr Γ ad)).map fun v => v.category).sum ≤ 8 := lv_room (by rw [cat_ad]; exact hst)
  rcases hl with hl | ⟨host, hl⟩
  · exact va_runI (fixJ C) (hM.2 l Γ ad H.size) (cwI n C.2.2.2.2.1 (gtbl_code hm.1) rfl rfl rfl (C.2.2.2.2.1 _ hm.2.1) (C.2.2.2.2.1 _ hl) (C.2.2.2.2.1 _ hv) hy hm.2.2.1 (roomJ_ok C hm.2.2.2.2)) ⟨blindJ, hPc⟩ rfl (by rw [List.length_map]; exact hn') hsz (by rw [hst']) hroom hd ⟨c1, c2⟩
  · exact va_runIN (fixJ C) (hM.2 l Γ ad H.size) ⟨va_cnB n C.2.2.2.2.1 (gtbl_code hm.1) rfl rfl rfl (C.2.2.2.2.2.1.2.1 _ hl) (C.2.2.2.2.1 _ hm.2.1) hm.2.2.1 (roomJ_ok C hm.2.2.2.2), hy, C.2.2.2.2.1 _ hv⟩ ⟨blindJ, hPc⟩ rfl (by rw [List.length_map]; exact hn') hsz (by rw [hst']) hroom hd ⟨c1, c2⟩
end JCall
