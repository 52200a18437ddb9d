theorem hn_setI (h : PH) (i k : Nat) (v : Int32) : hn (setI h i k v) = hn h := rfl
theorem hs_setI (h : PH) (i k : Nat) (v : Int32) : hs (setI h i k v) = hs h := rfl
theorem hT_setI (h : PH) (i k : Nat) (v : Int32) : hT (setI h i k v) = hT h := rfl
theorem hL_setI (h : PH) (i k : Nat) (v : Int32) : hL (setI h i k v) = hL h := rfl
theorem hR_setI (h : PH) (i k : Nat) (v : Int32) : hR (setI h i k v) = hR h := rfl
theorem hI_setI (h : PH) (i k : Nat) (v : Int32) (a b : Nat) : hI (setI h i k v) a b = if a = i ∧ b = k then v else hI h a b := rfl
theorem hn_setL (h : PH) (i k : Nat) (v : Int64) : hn (setL h i k v) = hn h := rfl
theorem hs_setL (h : PH) (i k : Nat) (v : Int64) : hs (setL h i k v) = hs h := rfl
theorem hT_setL (h : PH) (i k : Nat) (v : Int64) : hT (setL h i k v) = hT h := rfl
theorem hI_setL (h : PH) (i k : Nat) (v : Int64) : hI (setL h i k v) = hI h := rfl
theorem hR_setL (h : PH) (i k : Nat) (v : Int64) : hR (setL h i k v) = hR h := rfl
theorem hL_setL (h : PH) (i k : Nat) (v : Int64) (a b : Nat) : hL (setL h i k v) a b = if a = i ∧ b = k then v else hL h a b := rfl
theorem hn_setR (h : PH) (i k : Nat) (v : Option Nat) : hn (setR h i k v) = hn h := rfl
theorem hs_setR (h : PH) (i k : Nat) (v : Option Nat) : hs (setR h i k v) = hs h := rfl
theorem hT_setR (h : PH) (i k : Nat) (v : Option Nat) : hT (setR h i k v) = hT h := rfl
theorem hI_setR (h : PH) (i k : Nat) (v : Option Nat) : hI (setR h i k v) = hI h := rfl
theorem hL_setR (h : PH) (i k : Nat) (v : Option Nat) : hL (setR h i k v) = hL h := rfl
theorem hR_setR (h : PH) (i k : Nat) (v : Option Nat) (a b : Nat) : hR (setR h i k v) a b = if a = i ∧ b = k then v else hR h a b := rfl
/-- tag and length of a cell that is there -/
def hG (h : PH) (i : Nat) : Nat × Nat := if i < hn h then hT h i else (99, 0)
theorem hG_setI (h : PH) (i k : Nat) (v : Int32) : hG (setI h i k v) = hG h := rfl
theorem hG_setL (h : PH) (i k : Nat) (v : Int64) : hG (setL h i k v) = hG h := rfl
theorem hG_setR (h : PH) (i k : Nat) (v : Option Nat) : hG (setR h i k v) = hG h := rfl
theorem hG_lt {h : PH} {i t n : Nat} (hg : hG h i = (t, n)) (ht : t < 99) : i < hn h ∧ hT h i = (t, n) := by
  unfold hG at hg
  by_cases hi : i < hn h
  · rw [if_pos hi] at hg; exact ⟨hi, hg⟩
  · rw [if_neg hi] at hg; cases hg; omega
def clsR : Nat → String := fun c => match c with
  | 0 => RX0 | 1 => RX1 | 2 => RX2 | 3 => RX3 | 4 => RX4 | 5 => RX5 | 6 => RX6 | 7 => RX7 | _ => RX8
def clsT : Nat → u_T := fun c => match c with
  | 0 => TX0 | 1 => TX1 | 2 => TX2 | 3 => TX3 | 4 => TX4 | 5 => TX5 | 6 => TX6 | 7 => TX7 | _ => TX8
def FC (c : Nat) : Prop := cls[c]? = some (clsR c, clsT c, fN c) ∧ (∀ w ∈ u_ws (clsR c) (clsT c) (fN c), w ∈ gtbl) ∧ (∀ k, k < fN c → parseFieldDescriptor ((clsT c) k).2.2.1 = some (fT c k)) ∧ ∀ a, a < fN c → ∀ b, b < fN c → a ≠ b → ((clsT c) a).2.1 ≠ ((clsT c) b).2.1
theorem FC_ok : ∀ c, c < 9 → FC c
  | 0, _ => ⟨rfl, uws_0, tyX0_ok, nmX0⟩
  | 1, _ => ⟨rfl, uws_1, tyX1_ok, nmX1⟩
  | 2, _ => ⟨rfl, uws_2, tyX2_ok, nmX2⟩
  | 3, _ => ⟨rfl, uws_3, tyX3_ok, nmX3⟩
  | 4, _ => ⟨rfl, uws_4, tyX4_ok, nmX4⟩
  | 5, _ => ⟨rfl, uws_5, tyX5_ok, nmX5⟩
  | 6, _ => ⟨rfl, uws_6, tyX6_ok, nmX6⟩
  | 7, _ => ⟨rfl, uws_7, tyX7_ok, nmX7⟩
  | 8, _ => ⟨rfl, uws_8, tyX8_ok, nmX8⟩
  | n + 9, h => absurd h (by omega)
/-- a link to field k of class t -/
def FLk (own : String) (idx t k : Nat) : Prop := (t < 9 ∧ k < fN t) ∧ (Cond.fieldLink own idx ((clsT t) k).1 ((clsT t) k).2.1 ((clsT t) k).2.2.1 ∈ gtbl ∨ ∃ host, Cond.fieldLinkNest own idx ((clsT t) k).1 ((clsT t) k).2.1 ((clsT t) k).2.2.1 host ∈ nestW)
def MLk (own : String) (idx : Nat) (y : MethodName) : Prop := Cond.methodLink own idx y ∈ gtbl ∨ ∃ host, Cond.methodLinkNest own idx y host ∈ nestW
theorem map_set_range {α : Type} {f g : Nat → α} {N k : Nat} {w : α} (hk : k < N) (hw : g k = w) (ho : ∀ j, j ≠ k → g j = f j) : (List.range N).map g = ((List.range N).map f).set k w := by
  apply List.ext_getElem?
  intro j
  by_cases hj : j = k
  · subst hj
    simp [hk, hw]
  · rw [List.getElem?_set_ne (fun q => hj q.symm), List.getElem?_map, List.getElem?_map]
    cases hr : (List.range N)[j]? with
    | none => rfl
    | some x =>
      have : x = j := by
        obtain ⟨a, b⟩ := List.getElem?_eq_some_iff.mp hr
        simpa using b.symm
      subst this
      simp [ho x hj]
theorem wcell_obj {Γ : GA} {ad : Nat → Nat} {h : PH} {i t n : Nat} (hT' : hT h i = (t, n)) (ht : t < 9) : wcell Γ ad h i = .inr (t, (List.range (fN t)).map (fval ad h i t)) := by
  simp [wcell, hT', ht]
theorem wcell_eq {Γ : GA} {ad : Nat → Nat} {h h1 : PH} {j : Nat} (e1 : hT h1 j = hT h j) (e2 : hI h1 j = hI h j) (e3 : hL h1 j = hL h j) (e4 : hR h1 j = hR h j) : wcell Γ ad h1 j = wcell Γ ad h j := by
  have ef : ∀ c, fval ad h1 j c = fval ad h j c := fun c => by funext k; simp [fval, e2, e4]
  simp [wcell, e1, e2, e3, e4, ef]
theorem wcell_setI {Γ : GA} {ad : Nat → Nat} {h : PH} {i k j : Nat} {v : Int32} (hj : j ≠ i) : wcell Γ ad (setI h i k v) j = wcell Γ ad h j :=
  wcell_eq rfl (by funext q; simp [hI_setI, hj]) rfl rfl
theorem wcell_setL {Γ : GA} {ad : Nat → Nat} {h : PH} {i k j : Nat} {v : Int64} (hj : j ≠ i) : wcell Γ ad (setL h i k v) j = wcell Γ ad h j :=
  wcell_eq rfl rfl (by funext q; simp [hL_setL, hj]) rfl
theorem wcell_setR {Γ : GA} {ad : Nat → Nat} {h : PH} {i k j : Nat} {v : Option Nat} (hj : j ≠ i) : wcell Γ ad (setR h i k v) j = wcell Γ ad h j :=
  wcell_eq rfl rfl rfl (by funext q; simp [hR_setR, hj])
theorem hwf_setI {h : PH} {i k : Nat} {v : Int32} (w : hwf h) : hwf (setI h i k v) := w
theorem hwf_setL {h : PH} {i k : Nat} {v : Int64} (w : hwf h) : hwf (setL h i k v) := w
theorem hwf_setR {h : PH} {i k : Nat} {v : Option Nat} (w : hwf h) (hv : ∀ r, v = some r → r < hn h) : hwf (setR h i k v) := by
  intro a b r hr
  rw [hR_setR] at hr
  by_cases q : a = i ∧ b = k
  · rw [if_pos q] at hr; exact hv r hr
  · rw [if_neg q] at hr; exact w a b r hr
section HW
variable {p : Program} {l : Launch} {e : Env} {R : Room} {s : State} {m : MethodId} {args : Array Value} {below : List Frame} {meth : Method} {c : Code} {H : Heap} {locs : List Loc} {cells slots : Nat} {Q : State → Prop}
variable {Γ : GA} {M : JM} {d pc : Nat} {A : Nat → Prop} {ad : Nat → Nat} {lsr : Array Slot} {rest : List Value} {h h1 : PH}
theorem W_fget (C : JCx Γ M d p R s m args meth c A) (hW : WW Γ A ad h H) {i t n k idx : Nat} (hg : hG h i = (t, n)) (hl : FLk M.1.cls idx t k) (hd : decode M.2.1 pc = .ok (.getfield idx, 3)) (kk : W p l e R s m args below meth c H locs cells slots Q (F0 m (pc + 3) lsr (fval ad h i t k :: rest))) : W p l e R s m args below meth c H locs cells slots Q (F0 m pc lsr (.ref (ad i) :: rest)) := by
  obtain ⟨⟨ht, hk⟩, hl⟩ := hl
  obtain ⟨hi, hT'⟩ := hG_lt hg (by omega)
  obtain ⟨f1, f2, f3, f4⟩ := FC_ok t ht
  have he : (wsG Γ ad h)[i]? = some (ad i, .inr (t, (List.range (fN t)).map (fval ad h i t))) := by rw [wsG_get hi, wcell_obj hT' ht]
  have hv : ((List.range (fN t)).map (fval ad h i t))[k]? = some (fval ad h i t k) := by simp [hk]
  rcases hl with hl | ⟨host, hl⟩
  · exact va_get C.1 C.2.1 C.2.2.2.2.1 f2 C.2.2.2.1 C.2.2.2.2.2.1.1 hW.1 i he f1 k hk (C.2.2.2.2.1 _ hl) (fun x z => z) hv hd kk
  · exact va_getN C.1 C.2.1 C.2.2.2.2.1 f2 C.2.2.2.1 C.2.2.2.2.2.1.1 hW.1 i he f1 k hk (va_Nw.use rfl (C.2.2.2.2.2.1.2.1 _ hl)) (fun x z => z) hv hd kk
theorem W_fput (C : JCx Γ M d p R s m args meth c A) (hW : WW Γ A ad h H) (hS : va_S A s.heap H locs) {i t n k idx : Nat} {w : Value} (hg : hG h i = (t, n)) (hl : FLk M.1.cls idx t k) (hfin : ((clsT t) k).2.2.2 = false) (hn' : narrow (fT t k) w = w) (hfit : fits (fT t k) w = true)
    (z : hn h1 = hn h) (he1 : wcell Γ ad h1 i = .inr (t, ((List.range (fN t)).map (fval ad h i t)).set k w)) (ho : ∀ j, j ≠ i → wcell Γ ad h1 j = wcell Γ ad h j) (hwf1 : hwf h1) (hd : decode M.2.1 pc = .ok (.putfield idx, 3))
    (kk : ∀ (H1 : Heap) (locs1 : List Loc), WW Γ A ad h1 H1 → va_S A s.heap H1 locs1 → W p l e R s m args below meth c H1 locs1 cells slots Q (F0 m (pc + 3) lsr rest)) : W p l e R s m args below meth c H locs cells slots Q (F0 m pc lsr (w :: .ref (ad i) :: rest)) := by
  obtain ⟨⟨ht, hk⟩, hl⟩ := hl
  obtain ⟨hi, hT'⟩ := hG_lt hg (by omega)
  obtain ⟨f1, f2, f3, f4⟩ := FC_ok t ht
  have he : (wsG Γ ad h)[i]? = some (ad i, .inr (t, (List.range (fN t)).map (fval ad h i t))) := by rw [wsG_get hi, wcell_obj hT' ht]
  have es := wsG_set (Γ := Γ) (ad := ad) (h := h) (h1 := h1) hi z he1 ho
  rcases hl with hl | ⟨host, hl⟩
  · exact va_put C.1 C.2.1 C.2.2.2.2.1 f2 (fT t) f3 f4 C.2.2.2.1 C.2.2.2.2.2.1.1 hW.1 hW.2.1 hS i he f1 k hk (C.2.2.2.2.1 _ hl) (fun x z => z) hfin (f3 k hk) hn' hfit (by simp [hk]) hd (fun H1 locs1 a b => by rw [es] at a b; exact kk H1 locs1 ⟨a, b, hwf1⟩)
  · exact va_putN C.1 C.2.1 C.2.2.2.2.1 f2 (fT t) f3 f4 C.2.2.2.1 C.2.2.2.2.2.1.1 hW.1 hW.2.1 hS i he f1 k hk (va_Nw.use rfl (C.2.2.2.2.2.1.2.1 _ hl)) (fun x z => z) hfin (f3 k hk) hn' hfit (by simp [hk]) hd (fun H1 locs1 a b => by rw [es] at a b; exact kk H1 locs1 ⟨a, b, hwf1⟩)
theorem W_fputF (C : JCx Γ M d p R s m args meth c A) (hW : WW Γ A ad h H) (hS : va_S A s.heap H locs) {i t n k idx : Nat} {w : Value} (hg : hG h i = (t, n)) (ht : t < 9) (hk : k < fN t) (hl : Cond.fieldLink M.1.cls idx ((clsT t) k).1 ((clsT t) k).2.1 ((clsT t) k).2.2.1 ∈ gtbl) (hfin : ((clsT t) k).2.2.2 = true) (hini : M.1.name = "<init>") (hdecl : ((clsT t) k).1 = M.1.cls) (hn' : narrow (fT t k) w = w) (hfit : fits (fT t k) w = true)
    (z : hn h1 = hn h) (he1 : wcell Γ ad h1 i = .inr (t, ((List.range (fN t)).map (fval ad h i t)).set k w)) (ho : ∀ j, j ≠ i → wcell Γ ad h1 j = wcell Γ ad h j) (hwf1 : hwf h1) (hd : decode M.2.1 pc = .ok (.putfield idx, 3))
    (kk : ∀ (H1 : Heap) (locs1 : List Loc), WW Γ A ad h1 H1 → va_S A s.heap H1 locs1 → W p l e R s m args below meth c H1 locs1 cells slots Q (F0 m (pc + 3) lsr rest)) : W p l e R s m args below meth c H locs cells slots Q (F0 m pc lsr (w :: .ref (ad i) :: rest)) := by
  obtain ⟨hi, hT'⟩ := hG_lt hg (by omega)
  obtain ⟨f1, f2, f3, f4⟩ := FC_ok t ht
  have he : (wsG Γ ad h)[i]? = some (ad i, .inr (t, (List.range (fN t)).map (fval ad h i t))) := by rw [wsG_get hi, wcell_obj hT' ht]
  have es := wsG_set (Γ := Γ) (ad := ad) (h := h) (h1 := h1) hi z he1 ho
  exact va_putF C.1 C.2.1 C.2.2.2.2.1 f2 (fT t) f3 f4 C.2.2.2.1 C.2.2.2.2.2.1.1 hW.1 hW.2.1 hS i he f1 k hk (C.2.2.2.2.1 _ hl) (fun x z => z) hfin (by rw [C.2.2.2.2.2.2.2.2.2.2]; exact hini) hdecl (f3 k hk) hn' hfit (by simp [hk]) hd (fun H1 locs1 a b => by rw [es] at a b; exact kk H1 locs1 ⟨a, b, hwf1⟩)
/-! arrays -/
theorem wcell_int {i n : Nat} (hT' : hT h i = (20, n)) : wcell Γ ad h i = .inl (Γ.2.1 20, n, .inl (hI h i)) := by simp [wcell, hT']
theorem wcell_boo {i n : Nat} (hT' : hT h i = (21, n)) : wcell Γ ad h i = .inl (Γ.2.1 21, n, .inl (hI h i)) := by simp [wcell, hT']
theorem wcell_lon {i n : Nat} (hT' : hT h i = (22, n)) : wcell Γ ad h i = .inl (Γ.2.1 22, n, .inr (.inl (hL h i))) := by simp [wcell, hT']
theorem wcell_ref {i n t : Nat} (hT' : hT h i = (t, n)) (ht : 23 ≤ t) : wcell Γ ad h i = .inl (Γ.2.1 t, n, .inr (.inr (.inr (.inr fun k => (hR h i k).map ad)))) := by
  have h1 : ¬ t < 9 := by omega
  have h2 : ¬ t = 22 := by omega
  have h3 : ¬ (t = 20 ∨ t = 21) := by omega
  simp [wcell, hT', h1, h2, h3]
theorem W_iald (C : JCx Γ M d p R s m args meth c A) (hW : WW Γ A ad h H) {i n : Nat} {x : Int32} (hg : hG h i = (20, n)) (hin : vp_in x n) (hd : decode M.2.1 pc = .ok (.iaload, 1)) (kk : W p l e R s m args below meth c H locs cells slots Q (F0 m (pc + 1) lsr (.int (hI h i x.toNatClampNeg) :: rest))) : W p l e R s m args below meth c H locs cells slots Q (F0 m pc lsr (.int x :: .ref (ad i) :: rest)) := by
  obtain ⟨hi, hT'⟩ := hG_lt hg (by omega)
  exact va_iald C.1 C.2.1 C.2.2.2.2.2.1.1 hW.1 i 0 (by rw [wsG_get hi, wcell_int hT']) rfl hin hd kk
theorem W_zald (C : JCx Γ M d p R s m args meth c A) (hW : WW Γ A ad h H) {i n : Nat} {x : Int32} (hg : hG h i = (21, n)) (hin : vp_in x n) (hd : decode M.2.1 pc = .ok (.baload, 1)) (kk : W p l e R s m args below meth c H locs cells slots Q (F0 m (pc + 1) lsr (.int (hI h i x.toNatClampNeg) :: rest))) : W p l e R s m args below meth c H locs cells slots Q (F0 m pc lsr (.int x :: .ref (ad i) :: rest)) := by
  obtain ⟨hi, hT'⟩ := hG_lt hg (by omega)
  exact va_zald C.1 C.2.1 C.2.2.2.2.2.1.1 hW.1 i 1 (by rw [wsG_get hi, wcell_boo hT']) rfl hin hd kk
theorem W_lald (C : JCx Γ M d p R s m args meth c A) (hW : WW Γ A ad h H) {i n : Nat} {x : Int32} (hg : hG h i = (22, n)) (hin : vp_in x n) (hd : decode M.2.1 pc = .ok (.laload, 1)) (kk : W p l e R s m args below meth c H locs cells slots Q (F0 m (pc + 1) lsr (.long (hL h i x.toNatClampNeg) :: rest))) : W p l e R s m args below meth c H locs cells slots Q (F0 m pc lsr (.int x :: .ref (ad i) :: rest)) := by
  obtain ⟨hi, hT'⟩ := hG_lt hg (by omega)
  exact va_lald C.1 C.2.1 C.2.2.2.2.2.1.1 hW.1 i 2 (by rw [wsG_get hi, wcell_lon hT']) rfl hin hd kk
theorem W_aald (C : JCx Γ M d p R s m args meth c A) (hW : WW Γ A ad h H) {i t n : Nat} {x : Int32} (hg : hG h i = (t, n)) (ht : t = 23 ∨ t = 24 ∨ t = 25) (hin : vp_in x n) (hd : decode M.2.1 pc = .ok (.aaload, 1)) (kk : W p l e R s m args below meth c H locs cells slots Q (F0 m (pc + 1) lsr (va_rf ((hR h i x.toNatClampNeg).map ad) :: rest))) : W p l e R s m args below meth c H locs cells slots Q (F0 m pc lsr (.int x :: .ref (ad i) :: rest)) := by
  obtain ⟨hi, hT'⟩ := hG_lt hg (by omega)
  have hlt : x.toNatClampNeg < n := Nat.not_le.mp fun q => hin (Or.inr q)
  have ha : (wsG Γ ad h)[i]? = some (ad i, .inl (Γ.2.1 t, n, .inr (.inr (.inr (.inr fun k => (hR h i k).map ad))))) := by rw [wsG_get hi, wcell_ref hT' (by omega)]
  have key : ∀ (t0 : Nat) (ty : FieldType), (tysG Γ)[t0]? = some (Γ.2.1 t, ty) → ty.isReference = true → W p l e R s m args below meth c H locs cells slots Q (F0 m pc lsr (.int x :: .ref (ad i) :: rest)) := fun t0 ty ht0 hr =>
    W.aald (v := va_rf ((hR h i x.toNatClampNeg).map ad)) (ty := ty) C.1 C.2.1 (hW.1 i _ ha) ((C.2.2.2.2.2.1.1.2 t0 _ ht0).1 n (fun j => va_rf ((hR h i j).map ad))) hr (fun q => by cases q) (by show ¬ (x < 0 ∨ (arrV _ _ _).slots.size ≤ _); rw [arrV_size]; exact hin) (by show (arrV _ _ _).slots[_]? = _; rw [arrV_read _ _ hlt]) rfl rfl hd kk
  rcases ht with rfl | rfl | rfl
  · exact key 3 _ rfl rfl
  · exact key 4 _ rfl rfl
  · exact key 5 _ rfl rfl
theorem W_alen (C : JCx Γ M d p R s m args meth c A) (hW : WW Γ A ad h H) {i t n : Nat} (hg : hG h i = (t, n)) (ht : 20 ≤ t ∧ t ≤ 25) (hd : decode M.2.1 pc = .ok (.arraylength, 1)) (kk : W p l e R s m args below meth c H locs cells slots Q (F0 m (pc + 1) lsr (.int (Int32.ofNat n) :: rest))) : W p l e R s m args below meth c H locs cells slots Q (F0 m pc lsr (.ref (ad i) :: rest)) := by
  obtain ⟨hi, hT'⟩ := hG_lt hg (by omega)
  obtain ⟨t1, t2⟩ := ht
  have key : ∀ (t0 : Nat) (ty : FieldType) (xx : (Nat → Int32) ⊕ (Nat → Int64) ⊕ (Nat → UInt32) ⊕ (Nat → UInt64) ⊕ (Nat → Option Nat)), (tysG Γ)[t0]? = some (Γ.2.1 t, ty) → wcell Γ ad h i = .inl (Γ.2.1 t, n, xx) → W p l e R s m args below meth c H locs cells slots Q (F0 m pc lsr (.ref (ad i) :: rest)) := fun t0 ty xx ht0 hc =>
    va_alen C.1 C.2.1 C.2.2.2.2.2.1.1 hW.1 i t0 (x := (n, xx)) (by rw [wsG_get hi, hc]) ht0 rfl hd kk
  have : t = 20 ∨ t = 21 ∨ t = 22 ∨ t = 23 ∨ t = 24 ∨ t = 25 := by omega
  rcases this with rfl | rfl | rfl | rfl | rfl | rfl
  · exact key 0 _ _ rfl (wcell_int hT')
  · exact key 1 _ _ rfl (wcell_boo hT')
  · exact key 2 _ _ rfl (wcell_lon hT')
  · exact key 3 _ _ rfl (wcell_ref hT' (by omega))
  · exact key 4 _ _ rfl (wcell_ref hT' (by omega))
  · exact key 5 _ _ rfl (wcell_ref hT' (by omega))
theorem W_iast (C : JCx Γ M d p R s m args meth c A) (hW : WW Γ A ad h H) (hS : va_S A s.heap H locs) {i n : Nat} {x v : Int32} (hg : hG h i = (20, n)) (hin : vp_in x n) (hd : decode M.2.1 pc = .ok (.iastore, 1))
    (kk : ∀ (H1 : Heap) (locs1 : List Loc), WW Γ A ad (setI h i x.toNatClampNeg v) H1 → va_S A s.heap H1 locs1 → W p l e R s m args below meth c H1 locs1 cells slots Q (F0 m (pc + 1) lsr rest)) : W p l e R s m args below meth c H locs cells slots Q (F0 m pc lsr (.int v :: .int x :: .ref (ad i) :: rest)) := by
  obtain ⟨hi, hT'⟩ := hG_lt hg (by omega)
  have es := wsG_set (Γ := Γ) (ad := ad) (h := h) (h1 := setI h i x.toNatClampNeg v) hi rfl (e := .inl (Γ.2.1 20, n, .inl (upd (hI h i) x.toNatClampNeg v))) (by rw [wcell_int (h := setI h i x.toNatClampNeg v) hT']; congr 3; congr 1; funext q; simp [hI_setI, upd]) (fun j hj => wcell_setI hj)
  exact va_iast C.1 C.2.1 C.2.2.2.2.2.1.1 hW.1 hW.2.1 hS i 0 (by rw [wsG_get hi, wcell_int hT']) rfl hin hd (fun H1 locs1 a b => by rw [es] at a b; exact kk H1 locs1 ⟨a, b, hW.2.2⟩)
theorem W_zast (C : JCx Γ M d p R s m args meth c A) (hW : WW Γ A ad h H) (hS : va_S A s.heap H locs) {i n : Nat} {x v : Int32} (hg : hG h i = (21, n)) (hv : v = 0 ∨ v = 1) (hin : vp_in x n) (hd : decode M.2.1 pc = .ok (.bastore, 1))
    (kk : ∀ (H1 : Heap) (locs1 : List Loc), WW Γ A ad (setI h i x.toNatClampNeg v) H1 → va_S A s.heap H1 locs1 → W p l e R s m args below meth c H1 locs1 cells slots Q (F0 m (pc + 1) lsr rest)) : W p l e R s m args below meth c H locs cells slots Q (F0 m pc lsr (.int v :: .int x :: .ref (ad i) :: rest)) := by
  obtain ⟨hi, hT'⟩ := hG_lt hg (by omega)
  have hnv : vp_nar .boolean v = v := by rcases hv with rfl | rfl <;> rfl
  have es := wsG_set (Γ := Γ) (ad := ad) (h := h) (h1 := setI h i x.toNatClampNeg v) hi rfl (e := .inl (Γ.2.1 21, n, .inl (upd (hI h i) x.toNatClampNeg v))) (by rw [wcell_boo (h := setI h i x.toNatClampNeg v) hT']; congr 3; congr 1; funext q; simp [hI_setI, upd]) (fun j hj => wcell_setI hj)
  exact va_zast C.1 C.2.1 C.2.2.2.2.2.1.1 hW.1 hW.2.1 hS i 1 (by rw [wsG_get hi, wcell_boo hT']) rfl hin hd (fun H1 locs1 a b => by rw [hnv, es] at a b; exact kk H1 locs1 ⟨a, b, hW.2.2⟩)
theorem W_last (C : JCx Γ M d p R s m args meth c A) (hW : WW Γ A ad h H) (hS : va_S A s.heap H locs) {i n : Nat} {x : Int32} {v : Int64} (hg : hG h i = (22, n)) (hin : vp_in x n) (hd : decode M.2.1 pc = .ok (.lastore, 1))
    (kk : ∀ (H1 : Heap) (locs1 : List Loc), WW Γ A ad (setL h i x.toNatClampNeg v) H1 → va_S A s.heap H1 locs1 → W p l e R s m args below meth c H1 locs1 cells slots Q (F0 m (pc + 1) lsr rest)) : W p l e R s m args below meth c H locs cells slots Q (F0 m pc lsr (.long v :: .int x :: .ref (ad i) :: rest)) := by
  obtain ⟨hi, hT'⟩ := hG_lt hg (by omega)
  have es := wsG_set (Γ := Γ) (ad := ad) (h := h) (h1 := setL h i x.toNatClampNeg v) hi rfl (e := .inl (Γ.2.1 22, n, .inr (.inl (vp_updL (hL h i) x.toNatClampNeg v)))) (by rw [wcell_lon (h := setL h i x.toNatClampNeg v) hT']; congr 4; congr 1; funext q; simp [hL_setL, vp_updL]) (fun j hj => wcell_setL hj)
  exact va_last C.1 C.2.1 C.2.2.2.2.2.1.1 hW.1 hW.2.1 hS i 2 (by rw [wsG_get hi, wcell_lon hT']) rfl hin hd (fun H1 locs1 a b => by rw [es] at a b; exact kk H1 locs1 ⟨a, b, hW.2.2⟩)
theorem W_aast (C : JCx Γ M d p R s m args meth c A) (hW : WW Γ A ad h H) (hS : va_S A s.heap H locs) {i n r nr : Nat} {x : Int32} (hg : hG h i = (23, n)) (hr : hG h r = (4, nr)) (hin : vp_in x n) (hd : decode M.2.1 pc = .ok (.aastore, 1))
    (kk : ∀ (H1 : Heap) (locs1 : List Loc), WW Γ A ad (setR h i x.toNatClampNeg (some r)) H1 → va_S A s.heap H1 locs1 → W p l e R s m args below meth c H1 locs1 cells slots Q (F0 m (pc + 1) lsr rest)) : W p l e R s m args below meth c H locs cells slots Q (F0 m pc lsr (.ref (ad r) :: .int x :: .ref (ad i) :: rest)) := by
  obtain ⟨hi, hT'⟩ := hG_lt hg (by omega)
  obtain ⟨hi2, hT2⟩ := hG_lt hr (by omega)
  have es := wsG_set (Γ := Γ) (ad := ad) (h := h) (h1 := setR h i x.toNatClampNeg (some r)) hi rfl (e := .inl (Γ.2.1 23, n, .inr (.inr (.inr (.inr (va_up (fun k => (hR h i k).map ad) x.toNatClampNeg (some (ad r)))))))) (by rw [wcell_ref (h := setR h i x.toNatClampNeg (some r)) hT' (by omega)]; congr 7; funext q; by_cases hq : q = x.toNatClampNeg <;> simp [hR_setR, va_up, hq]) (fun j hj => wcell_setR hj)
  exact va_astq (r := (RX4, TX4, 2)) C.1 C.2.1 C.2.2.2.2.2.1.1 hW.1 hW.2.1 hS i 3 r 4 (by rw [wsG_get hi, wcell_ref hT' (by omega)]) rfl (by rw [wsG_get hi2, wcell_obj hT2 (by omega)]) rfl hin hd (fun H1 locs1 a b => by rw [es] at a b; exact kk H1 locs1 ⟨a, b, hwf_setR hW.2.2 (fun q z => by cases z; exact hi2)⟩)
theorem W_aastN (C : JCx Γ M d p R s m args meth c A) (hW : WW Γ A ad h H) (hS : va_S A s.heap H locs) {i n : Nat} {x : Int32} (hg : hG h i = (23, n)) (hin : vp_in x n) (hd : decode M.2.1 pc = .ok (.aastore, 1))
    (kk : ∀ (H1 : Heap) (locs1 : List Loc), WW Γ A ad (setR h i x.toNatClampNeg none) H1 → va_S A s.heap H1 locs1 → W p l e R s m args below meth c H1 locs1 cells slots Q (F0 m (pc + 1) lsr rest)) : W p l e R s m args below meth c H locs cells slots Q (F0 m pc lsr (.null :: .int x :: .ref (ad i) :: rest)) := by
  obtain ⟨hi, hT'⟩ := hG_lt hg (by omega)
  have es := wsG_set (Γ := Γ) (ad := ad) (h := h) (h1 := setR h i x.toNatClampNeg none) hi rfl (e := .inl (Γ.2.1 23, n, .inr (.inr (.inr (.inr (va_up (fun k => (hR h i k).map ad) x.toNatClampNeg none)))))) (by rw [wcell_ref (h := setR h i x.toNatClampNeg none) hT' (by omega)]; congr 7; funext q; by_cases hq : q = x.toNatClampNeg <;> simp [hR_setR, va_up, hq]) (fun j hj => wcell_setR hj)
  exact va_astqN C.1 C.2.1 C.2.2.2.2.2.1.1 hW.1 hW.2.1 hS i 3 (by rw [wsG_get hi, wcell_ref hT' (by omega)]) rfl hin hd (fun H1 locs1 a b => by rw [es] at a b; exact kk H1 locs1 ⟨a, b, hwf_setR hW.2.2 (fun q z => by cases z)⟩)
end HW
section JH
variable {M : JM} {d pc : Nat} {ls : List (Option Value)} {st : List Value} {h h1 : PH} {o : Option Value} {h' : PH}
/-- one instruction that writes a cell -/
theorem J_hp {pc' : Nat} {st' : List Value} (z1 : hn h1 = hn h) (z2 : hs h1 = hs h)
    (hW : ∀ (Γ : GA) (p : Program) (l : Launch) (e : Env) (R : Room) (s : State) (m : MethodId) (args : Array Value) (below : List Frame) (meth : Method) (c : Code) (A : Nat → Prop) (Q : State → Prop) (H : Heap) (locs : List Loc) (cells slots : Nat) (ad : Nat → Nat) (lsr : Array Slot), JCx Γ M d p R s m args meth c A → WW Γ A ad h H → va_S A s.heap H locs → (∀ (H1 : Heap) (locs1 : List Loc), WW Γ A ad h1 H1 → va_S A s.heap H1 locs1 → W p l e R s m args below meth c H1 locs1 cells slots Q (F0 m pc' lsr (st'.map (tr Γ ad)))) → W p l e R s m args below meth c H locs cells slots Q (F0 m pc lsr (st.map (tr Γ ad))))
    (k : J M d pc' ls st' h1 o h') : J M d pc ls st h o h' := by
  refine ⟨by rw [← z1, ← z2]; exact k.1, fun Γ p l e R s m args below meth c A Q H locs cells slots ad lsr hC hWW hS hL h1 h2 hK => hW Γ p l e R s m args below meth c A Q H locs cells slots ad lsr hC hWW hS (fun H1 locs1 a b => ?_)⟩
  refine k.2 Γ p l e R s m args below meth c A Q H1 locs1 cells slots ad lsr hC a b hL (by rw [z1]; exact h1) (by rw [z2]; exact h2) (fun H2 locs2 ad2 pc2 ls2 r1 r2 r3 r4 => ?_)
  have := hK H2 locs2 ad2 pc2 ls2 r1 (fun i hi => r2 i (by rw [z1]; exact hi)) r3 r4
  rw [z1, z2]
  exact this
theorem j_getI {i t n k idx : Nat} (hd : decode M.2.1 pc = .ok (.getfield idx, 3)) (hg : hG h i = (t, n)) (hl : FLk M.1.cls idx t k) (hr : rty (fT t k) = false) (k1 : J M d (pc + 3) ls (.int (hI h i k) :: st) h o h') : J M d pc ls (.ref i :: st) h o h' :=
  J_st (fun Γ p l e R s m args below meth c A Q H locs cells slots ad lsr C WH S L kk => W_fget C WH hg hl hd (by rw [fval, hr]; exact kk)) k1
theorem j_getR {i t n k idx r : Nat} (hd : decode M.2.1 pc = .ok (.getfield idx, 3)) (hg : hG h i = (t, n)) (hl : FLk M.1.cls idx t k) (hr : rty (fT t k) = true) (hv : hR h i k = some r) (k1 : J M d (pc + 3) ls (.ref r :: st) h o h') : J M d pc ls (.ref i :: st) h o h' :=
  J_st (fun Γ p l e R s m args below meth c A Q H locs cells slots ad lsr C WH S L kk => W_fget C WH hg hl hd (by rw [fval, hr, if_pos rfl, hv]; exact kk)) k1
theorem j_getN {i t n k idx : Nat} (hd : decode M.2.1 pc = .ok (.getfield idx, 3)) (hg : hG h i = (t, n)) (hl : FLk M.1.cls idx t k) (hr : rty (fT t k) = true) (hv : hR h i k = none) (k1 : J M d (pc + 3) ls (.null :: st) h o h') : J M d pc ls (.ref i :: st) h o h' :=
  J_st (fun Γ p l e R s m args below meth c A Q H locs cells slots ad lsr C WH S L kk => W_fget C WH hg hl hd (by rw [fval, hr, if_pos rfl, hv]; exact kk)) k1
theorem he_setI {Γ : GA} {ad : Nat → Nat} {i t n k : Nat} {v : Int32} (hg : hG h i = (t, n)) (ht : t < 9) (hk : k < fN t) (hr : rty (fT t k) = false) : wcell Γ ad (setI h i k v) i = .inr (t, ((List.range (fN t)).map (fval ad h i t)).set k (.int v)) := by
  obtain ⟨hi, hT'⟩ := hG_lt hg (by omega)
  rw [wcell_obj (h := setI h i k v) hT' ht]
  rw [map_set_range (f := fval ad h i t) (w := .int v) hk (by simp [fval, hr, hI_setI]) (fun j hj => by simp [fval, hI_setI, hR_setI, hj])]
theorem he_setR {Γ : GA} {ad : Nat → Nat} {i t n k : Nat} {v : Option Nat} (hg : hG h i = (t, n)) (ht : t < 9) (hk : k < fN t) (hr : rty (fT t k) = true) : wcell Γ ad (setR h i k v) i = .inr (t, ((List.range (fN t)).map (fval ad h i t)).set k (va_rf (v.map ad))) := by
  obtain ⟨hi, hT'⟩ := hG_lt hg (by omega)
  rw [wcell_obj (h := setR h i k v) hT' ht]
  rw [map_set_range (f := fval ad h i t) (w := va_rf (v.map ad)) hk (by simp [fval, hr, hR_setR]) (fun j hj => by simp [fval, hI_setR, hR_setR, hj])]
theorem j_putI {i t n k idx : Nat} {v : Int32} (hd : decode M.2.1 pc = .ok (.putfield idx, 3)) (hg : hG h i = (t, n)) (hl : FLk M.1.cls idx t k) (hr : fT t k = .int) (hf : ((clsT t) k).2.2.2 = false) (k1 : J M d (pc + 3) ls st (setI h i k v) o h') : J M d pc ls (.int v :: .ref i :: st) h o h' :=
  J_hp (h1 := setI h i k v) rfl rfl (fun Γ p l e R s m args below meth c A Q H locs cells slots ad lsr C WH S kk => W_fput (h1 := setI h i k v) C WH S hg hl hf (by rw [hr]; rfl) (by rw [hr]; rfl) rfl (he_setI hg hl.1.1 hl.1.2 (by rw [hr]; rfl)) (fun j hj => wcell_setI hj) WH.2.2 hd kk) k1
theorem j_putZ {i t n k idx : Nat} {v : Int32} (hd : decode M.2.1 pc = .ok (.putfield idx, 3)) (hg : hG h i = (t, n)) (hl : FLk M.1.cls idx t k) (hr : fT t k = .boolean) (hf : ((clsT t) k).2.2.2 = false) (hv : v = 0 ∨ v = 1) (k1 : J M d (pc + 3) ls st (setI h i k v) o h') : J M d pc ls (.int v :: .ref i :: st) h o h' :=
  J_hp (h1 := setI h i k v) rfl rfl (fun Γ p l e R s m args below meth c A Q H locs cells slots ad lsr C WH S kk => W_fput (h1 := setI h i k v) C WH S hg hl hf (by rw [hr]; rcases hv with rfl | rfl <;> rfl) (by rw [hr]; rcases hv with rfl | rfl <;> rfl) rfl (he_setI hg hl.1.1 hl.1.2 (by rw [hr]; rfl)) (fun j hj => wcell_setI hj) WH.2.2 hd kk) k1
theorem rfit {ty : FieldType} (hr : (∃ n, ty = .object n) ∨ ∃ t, ty = .array t) (a : Nat) : rty ty = true ∧ narrow ty (.ref a) = .ref a ∧ fits ty (.ref a) = true := by
  rcases hr with ⟨n, rfl⟩ | ⟨t, rfl⟩ <;> exact ⟨rfl, rfl, rfl⟩
theorem j_putR {i t n k idx r tr' nr : Nat} (hd : decode M.2.1 pc = .ok (.putfield idx, 3)) (hg : hG h i = (t, n)) (hl : FLk M.1.cls idx t k) (hr : (∃ n, fT t k = .object n) ∨ ∃ ty, fT t k = .array ty) (hf : ((clsT t) k).2.2.2 = false) (hgr : hG h r = (tr', nr)) (htr : tr' < 99) (k1 : J M d (pc + 3) ls st (setR h i k (some r)) o h') : J M d pc ls (.ref r :: .ref i :: st) h o h' :=
  J_hp (h1 := setR h i k (some r)) rfl rfl (fun Γ p l e R s m args below meth c A Q H locs cells slots ad lsr C WH S kk => W_fput (h1 := setR h i k (some r)) C WH S hg hl hf (rfit hr _).2.1 (rfit hr _).2.2 rfl (he_setR hg hl.1.1 hl.1.2 (rfit hr 0).1) (fun j hj => wcell_setR hj) (hwf_setR WH.2.2 (fun q z => by cases z; exact (hG_lt hgr htr).1)) hd kk) k1
theorem j_putIF {i t n k idx : Nat} {v : Int32} (hd : decode M.2.1 pc = .ok (.putfield idx, 3)) (hg : hG h i = (t, n)) (ht : t < 9) (hk : k < fN t) (hl : Cond.fieldLink M.1.cls idx ((clsT t) k).1 ((clsT t) k).2.1 ((clsT t) k).2.2.1 ∈ gtbl) (hr : fT t k = .int) (hf : ((clsT t) k).2.2.2 = true) (hini : M.1.name = "<init>") (hdecl : ((clsT t) k).1 = M.1.cls) (k1 : J M d (pc + 3) ls st (setI h i k v) o h') : J M d pc ls (.int v :: .ref i :: st) h o h' :=
  J_hp (h1 := setI h i k v) rfl rfl (fun Γ p l e R s m args below meth c A Q H locs cells slots ad lsr C WH S kk => W_fputF (h1 := setI h i k v) C WH S hg ht hk hl hf hini hdecl (by rw [hr]; rfl) (by rw [hr]; rfl) rfl (he_setI hg ht hk (by rw [hr]; rfl)) (fun j hj => wcell_setI hj) WH.2.2 hd kk) k1
theorem j_putRF {i t n k idx r tr' nr : Nat} (hd : decode M.2.1 pc = .ok (.putfield idx, 3)) (hg : hG h i = (t, n)) (ht : t < 9) (hk : k < fN t) (hl : Cond.fieldLink M.1.cls idx ((clsT t) k).1 ((clsT t) k).2.1 ((clsT t) k).2.2.1 ∈ gtbl) (hr : (∃ n, fT t k = .object n) ∨ ∃ ty, fT t k = .array ty) (hf : ((clsT t) k).2.2.2 = true) (hini : M.1.name = "<init>") (hdecl : ((clsT t) k).1 = M.1.cls) (hgr : hG h r = (tr', nr)) (htr : tr' < 99) (k1 : J M d (pc + 3) ls st (setR h i k (some r)) o h') : J M d pc ls (.ref r :: .ref i :: st) h o h' :=
  J_hp (h1 := setR h i k (some r)) rfl rfl (fun Γ p l e R s m args below meth c A Q H locs cells slots ad lsr C WH S kk => W_fputF (h1 := setR h i k (some r)) C WH S hg ht hk hl hf hini hdecl (rfit hr _).2.1 (rfit hr _).2.2 rfl (he_setR hg ht hk (rfit hr 0).1) (fun j hj => wcell_setR hj) (hwf_setR WH.2.2 (fun q z => by cases z; exact (hG_lt hgr htr).1)) hd kk) k1
theorem j_iald {i n : Nat} {x : Int32} (hd : decode M.2.1 pc = .ok (.iaload, 1)) (hg : hG h i = (20, n)) (hin : vp_in x n) (k1 : J M d (pc + 1) ls (.int (hI h i x.toNatClampNeg) :: st) h o h') : J M d pc ls (.int x :: .ref i :: st) h o h' :=
  J_st (fun Γ p l e R s m args below meth c A Q H locs cells slots ad lsr C WH S L kk => W_iald C WH hg hin hd kk) k1
theorem j_zald {i n : Nat} {x : Int32} (hd : decode M.2.1 pc = .ok (.baload, 1)) (hg : hG h i = (21, n)) (hin : vp_in x n) (k1 : J M d (pc + 1) ls (.int (hI h i x.toNatClampNeg) :: st) h o h') : J M d pc ls (.int x :: .ref i :: st) h o h' :=
  J_st (fun Γ p l e R s m args below meth c A Q H locs cells slots ad lsr C WH S L kk => W_zald C WH hg hin hd kk) k1
theorem j_lald {i n : Nat} {x : Int32} (hd : decode M.2.1 pc = .ok (.laload, 1)) (hg : hG h i = (22, n)) (hin : vp_in x n) (k1 : J M d (pc + 1) ls (.long (hL h i x.toNatClampNeg) :: st) h o h') : J M d pc ls (.int x :: .ref i :: st) h o h' :=
  J_st (fun Γ p l e R s m args below meth c A Q H locs cells slots ad lsr C WH S L kk => W_lald C WH hg hin hd kk) k1
theorem j_aald {i t n r : Nat} {x : Int32} (hd : decode M.2.1 pc = .ok (.aaload, 1)) (hg : hG h i = (t, n)) (ht : t = 23 ∨ t = 24 ∨ t = 25) (hin : vp_in x n) (hv : hR h i x.toNatClampNeg = some r) (k1 : J M d (pc + 1) ls (.ref r :: st) h o h') : J M d pc ls (.int x :: .ref i :: st) h o h' :=
  J_st (fun Γ p l e R s m args below meth c A Q H locs cells slots ad lsr C WH S L kk => W_aald C WH hg ht hin hd (by rw [hv]; exact kk)) k1
theorem j_aaldN {i t n : Nat} {x : Int32} (hd : decode M.2.1 pc = .ok (.aaload, 1)) (hg : hG h i = (t, n)) (ht : t = 23 ∨ t = 24 ∨ t = 25) (hin : vp_in x n) (hv : hR h i x.toNatClampNeg = none) (k1 : J M d (pc + 1) ls (.null :: st) h o h') : J M d pc ls (.int x :: .ref i :: st) h o h' :=
  J_st (fun Γ p l e R s m args below meth c A Q H locs cells slots ad lsr C WH S L kk => W_aald C WH hg ht hin hd (by rw [hv]; exact kk)) k1
theorem j_alen {i t n : Nat} (hd : decode M.2.1 pc = .ok (.arraylength, 1)) (hg : hG h i = (t, n)) (ht : 20 ≤ t ∧ t ≤ 25) (k1 : J M d (pc + 1) ls (.int (Int32.ofNat n) :: st) h o h') : J M d pc ls (.ref i :: st) h o h' :=
  J_st (fun Γ p l e R s m args below meth c A Q H locs cells slots ad lsr C WH S L kk => W_alen C WH hg ht hd kk) k1
theorem j_iast {i n : Nat} {x v : Int32} (hd : decode M.2.1 pc = .ok (.iastore, 1)) (hg : hG h i = (20, n)) (hin : vp_in x n) (k1 : J M d (pc + 1) ls st (setI h i x.toNatClampNeg v) o h') : J M d pc ls (.int v :: .int x :: .ref i :: st) h o h' :=
  J_hp (h1 := setI h i x.toNatClampNeg v) rfl rfl (fun Γ p l e R s m args below meth c A Q H locs cells slots ad lsr C WH S kk => W_iast C WH S hg hin hd kk) k1
theorem j_zast {i n : Nat} {x v : Int32} (hd : decode M.2.1 pc = .ok (.bastore, 1)) (hg : hG h i = (21, n)) (hv : v = 0 ∨ v = 1) (hin : vp_in x n) (k1 : J M d (pc + 1) ls st (setI h i x.toNatClampNeg v) o h') : J M d pc ls (.int v :: .int x :: .ref i :: st) h o h' :=
  J_hp (h1 := setI h i x.toNatClampNeg v) rfl rfl (fun Γ p l e R s m args below meth c A Q H locs cells slots ad lsr C WH S kk => W_zast C WH S hg hv hin hd kk) k1
theorem j_last {i n : Nat} {x : Int32} {v : Int64} (hd : decode M.2.1 pc = .ok (.lastore, 1)) (hg : hG h i = (22, n)) (hin : vp_in x n) (k1 : J M d (pc + 1) ls st (setL h i x.toNatClampNeg v) o h') : J M d pc ls (.long v :: .int x :: .ref i :: st) h o h' :=
  J_hp (h1 := setL h i x.toNatClampNeg v) rfl rfl (fun Γ p l e R s m args below meth c A Q H locs cells slots ad lsr C WH S kk => W_last C WH S hg hin hd kk) k1
theorem j_aast {i n r nr : Nat} {x : Int32} (hd : decode M.2.1 pc = .ok (.aastore, 1)) (hg : hG h i = (23, n)) (hr : hG h r = (4, nr)) (hin : vp_in x n) (k1 : J M d (pc + 1) ls st (setR h i x.toNatClampNeg (some r)) o h') : J M d pc ls (.ref r :: .int x :: .ref i :: st) h o h' :=
  J_hp (h1 := setR h i x.toNatClampNeg (some r)) rfl rfl (fun Γ p l e R s m args below meth c A Q H locs cells slots ad lsr C WH S kk => W_aast C WH S hg hr hin hd kk) k1
theorem j_aastN {i n : Nat} {x : Int32} (hd : decode M.2.1 pc = .ok (.aastore, 1)) (hg : hG h i = (23, n)) (hin : vp_in x n) (k1 : J M d (pc + 1) ls st (setR h i x.toNatClampNeg none) o h') : J M d pc ls (.null :: .int x :: .ref i :: st) h o h' :=
  J_hp (h1 := setR h i x.toNatClampNeg none) rfl rfl (fun Γ p l e R s m args below meth c A Q H locs cells slots ad lsr C WH S kk => W_aastN C WH S hg hin hd kk) k1
/-! constant arrays -/
theorem j_csts {idx kc : Nat} (hd : decode M.2.1 pc = .ok (.getstatic idx, 3)) (hl : Cond.fieldLink M.1.cls idx RX7 (cnm kc) "[I" ∈ gtbl) (hk : kc < 5) (k1 : J M d (pc + 3) ls (.retAddr kc :: st) h o h') : J M d pc ls st h o h' :=
  J_st (fun Γ p l e R s m args below meth c A Q H locs cells slots ad lsr C WH S L kk => va_gets C.1 C.2.1 (C.2.2.2.2.2.2.1.1 kc hk) S C.2.2.2.1 (C.2.2.2.2.1 _ hl) (fun x z => z) hd kk) k1
def cget (kc j : Nat) : Int32 := (ctab0 kc).getD j 0
theorem j_cald {kc : Nat} {x : Int32} (hd : decode M.2.1 pc = .ok (.iaload, 1)) (hk : kc < 5) (hin : vp_in x (ctab0 kc).length) (k1 : J M d (pc + 1) ls (.int (cget kc x.toNatClampNeg) :: st) h o h') : J M d pc ls (.int x :: .retAddr kc :: st) h o h' :=
  J_st (fun Γ p l e R s m args below meth c A Q H locs cells slots ad lsr C WH S L kk => va_ti C.1 C.2.1 (C.2.2.2.2.2.2.1.2.1 kc (by omega)) S (by rw [clen, if_pos hk]; exact hin) (v := .int (cget kc x.toNatClampNeg)) (by rw [ctab, if_pos hk]; rfl) hd kk) k1
theorem j_clen {kc : Nat} (hd : decode M.2.1 pc = .ok (.arraylength, 1)) (hk : kc < 5) (k1 : J M d (pc + 1) ls (.int (Int32.ofNat (ctab0 kc).length) :: st) h o h') : J M d pc ls (.retAddr kc :: st) h o h' :=
  J_st (fun Γ p l e R s m args below meth c A Q H locs cells slots ad lsr C WH S L kk => by
    obtain ⟨cell, g1, g2, g3, g4, g5, g6, g7⟩ := C.2.2.2.2.2.2.1.2.1 kc (by omega)
    exact W.alen (n := Int32.ofNat (ctab0 kc).length) C.1 C.2.1 (by rw [S.2.1 _ (Array.getElem?_eq_some_iff.mp g1).1 g7]; exact g1) g2 (by rw [g5, clen, if_pos hk]) rfl rfl hd kk) k1
theorem j_ldcS {idx i : Nat} (hd : decode M.2.1 pc = .ok (.ldc idx, 2)) (hi : i < 12) (ho : sown i = M.1.cls) (hx : sidx.getD i 0 = idx) (k1 : J M d (pc + 2) ls (.retAddr (6 + i) :: st) h o h') : J M d pc ls st h o h' :=
  J_st (fun Γ p l e R s m args below meth c A Q H locs cells slots ad lsr C WH S L kk => va_ldcS C.1 C.2.1 C.2.2.2.1 (by rw [← ho, ← hx]; exact (C.2.2.2.2.2.2.1.2.2.1 i hi).1) hd kk) k1
end JH
