/-! the Reader: numbers, words, statements, the whole tape -/
theorem rB {b : Bool} : RetT (some .boolean) (some (.int (bI b))) := ⟨.boolean, rfl, by cases b <;> rfl⟩
def telF (B : List Nat) (k : Tok) (what : Nat) (σ : WS) : Bool × Tok × WS := match numF B (tokF B k.2.2) with
  | none => (false, tokF B k.2.2, σ)
  | some v => if tellB σ.2.1.length (what : Int) (v : Int) then (true, tokF B k.2.2, setW σ what v) else (false, tokF B k.2.2, σ)
def clmF (B : List Nat) (k : Tok) (σ : WS) : Bool × Tok × WS := if σ.2.1.length < σ.2.2.2.1 then (match numF B (tokF B k.2.2) with
  | none => (false, tokF B k.2.2, σ)
  | some p => if p < σ.1.length ∧ (courseF σ.2.1 p 0).isSome = false then (true, tokF B k.2.2, (σ.1, insL σ.2.1 σ.2.1.length p, σ.2.2)) else (false, tokF B k.2.2, σ)) else (false, k, σ)
def pnF (B : List Nat) : Nat → Nat → Tok → List Nat → Bool × Tok × List Nat
  | 0, _, k, us => (true, k, us)
  | m + 1, what, k, us => match numF B (tokF B k.2.2) with
    | none => (false, tokF B k.2.2, us)
    | some v => if mayB what (v : Int) then pnF B m (what + 1) (tokF B k.2.2) (us ++ [v]) else (false, tokF B k.2.2, us)
def tupP (us : List Nat) : Pers := (us.getD 0 0, us.getD 1 0, us.getD 2 0, us.getD 3 0, us.getD 4 0)
def perF (B : List Nat) (k : Tok) (σ : WS) : Bool × Tok × WS := if σ.1.length < 8 then (if (pnF B 5 0 k []).1 then (true, (pnF B 5 0 k []).2.1, (σ.1 ++ [tupP (pnF B 5 0 k []).2.2], σ.2)) else (false, (pnF B 5 0 k []).2.1, σ)) else (false, k, σ)
def stF (B : List Nat) (k : Tok) (σ : WS) : Bool × Tok × WS := if wordB B k 0 then perF B k σ else if wordB B k 1 then clmF B k σ else if wordB B k 2 then (true, k, (σ.1, [], σ.2.2)) else if wordB B k 3 then telF B k 0 σ else if wordB B k 4 then telF B k 1 σ else if wordB B k 5 then telF B k 2 σ else (false, k, σ)
/-- how many statements, or the answer that tells the fault; the world behind it -/
def readF (B : List Nat) : Nat → Nat → Tok → WS → Int × WS
  | 0, _, k, σ => (-2000 - (k.2.1 : Int), σ)
  | f + 1, count, k, σ => if (stF B k σ).1 then (if (tokF B (stF B k σ).2.1.2.2).1 = 0 then ((count : Int), (stF B k σ).2.2) else if (tokF B (stF B k σ).2.1.2.2).1 = 3 then readF B f (count + 1) (tokF B (tokF B (stF B k σ).2.1.2.2).2.2) (stF B k σ).2.2 else (-2000 - ((tokF B (stF B k σ).2.1.2.2).2.1 : Int), (stF B k σ).2.2)) else (-2000 - ((stF B k σ).2.1.2.1 : Int), (stF B k σ).2.2)
theorem WorldS.crowd {h h1 : PH} {w : Nat} {σ : WS} {P : List Pers} (hW : WorldS h w σ) (a : Upd (pc1 (w + 1) (w + 2)) h h1) (hC : CrowdS h1 (w + 1) (w + 2) P) : WorldS h1 w (P, σ.2) := by
  obtain ⟨w1, w2, w3, w4, w5, w6, w7, w8, w9, w10⟩ := hW
  have e := a.2.2.2.2.2 w (by unfold pc1; omega)
  refine ⟨by rw [a.gg]; exact w1, by rw [a.rr]; exact w2, by rw [a.rr]; exact w3, hC, w5.keep a (by unfold pc1; omega) (by unfold pc1; omega), ?_, ?_, ?_, ?_, ?_⟩
  · rw [e]; exact w6
  · rw [e]; exact w7
  · rw [e]; exact w8
  · rw [e]; exact w9
  · rw [e]; exact w10
theorem WorldS.pile {h h1 : PH} {w : Nat} {σ : WS} {L : List Nat} (hW : WorldS h w σ) (a : Upd (pc2 (w + 3) (w + 4)) h h1) (hP : PileS h1 (w + 3) (w + 1) (w + 4) L) : WorldS h1 w (σ.1, L, σ.2.2) := by
  obtain ⟨w1, w2, w3, w4, w5, w6, w7, w8, w9, w10⟩ := hW
  have e := a.2.2.2.2.2 w (by unfold pc2; omega)
  refine ⟨by rw [a.gg]; exact w1, by rw [a.rr]; exact w2, by rw [a.rr]; exact w3, w4.keep a (by unfold pc2; omega) (by unfold pc2; omega), hP, ?_, ?_, ?_, ?_, ?_⟩
  · rw [e]; exact w6
  · rw [e]; exact w7
  · rw [e]; exact w8
  · rw [e]; exact w9
  · rw [e]; exact w10
/-- the cells of the reader and of a world -/
def rdw (r q w : Nat) : Nat → Prop := fun i => i = r ∨ i = q ∨ inW w i
theorem isSome_in {L : List Nat} {x : Nat} : ∀ n j, L.length - j = n → j ≤ L.length → ((courseF L x j).isSome = true ↔ x ∈ L.drop j) := by
  intro n
  induction n with
  | zero => intro j h1 h2; rw [courseF_end (by omega), List.drop_eq_nil_of_le (by omega)]; simp
  | succ n ih =>
    intro j h1 h2
    have hj : j < L.length := by omega
    rw [drop_cons hj, List.mem_cons]
    by_cases e : L.getD j 0 = x
    · rw [courseF_hit hj e]; exact ⟨fun _ => Or.inl e.symm, fun _ => rfl⟩
    · rw [courseF_miss hj e, ih (j + 1) (by omega) (by omega)]
      exact ⟨fun z => Or.inr z, fun z => z.resolve_left (fun y => e y.symm)⟩
theorem isSome_mem {L : List Nat} {x : Nat} : (courseF L x 0).isSome = true ↔ x ∈ L := by
  have := isSome_in (L := L) (x := x) _ 0 rfl (Nat.zero_le _)
  rw [List.drop_zero] at this
  exact this
theorem insL_end {L : List Nat} {x : Nat} : insL L L.length x = L ++ [x] := by simp [insL]
theorem okW_set {σ : WS} {k v : Nat} (ho : okW σ) (hk : k < 3) (ht : tellB σ.2.1.length (k : Int) (v : Int) = true) : okW (setW σ k v) := by
  obtain ⟨o1, o2, o3, o4, o5, o6⟩ := ho
  have ht := of_decide_eq_true ht
  have : k = 0 ∨ k = 1 ∨ k = 2 := by omega
  rcases this with rfl | rfl | rfl
  · exact ⟨o1, o2, o3, by show v ≤ 9; omega, o5, o6⟩
  · exact ⟨o1, o2, by show σ.2.1.length ≤ v; omega, o4, by show 1 ≤ v ∧ v ≤ 8; omega, o6⟩
  · exact ⟨o1, o2, o3, o4, o5, by show v ≤ 999; omega⟩
theorem okW_tel {B : List Nat} {k : Tok} {what : Nat} {σ : WS} (ho : okW σ) (hk : what < 3) : okW (telF B k what σ).2.2 := by
  unfold telF
  split
  · exact ho
  · split
    · rename_i h; exact okW_set ho hk h
    · exact ho
theorem okW_clm {B : List Nat} {k : Tok} {σ : WS} (ho : okW σ) : okW (clmF B k σ).2.2 := by
  unfold clmF
  split
  · rename_i hm
    split
    · exact ho
    · split
      · rename_i p _ h
        obtain ⟨o1, o2, o3, o4, o5, o6⟩ := ho
        refine ⟨insL_in o1 h.1, ?_, ?_, o4, o5, o6⟩
        · show (insL σ.2.1 σ.2.1.length _).Nodup
          rw [insL_end, List.nodup_append]
          refine ⟨o2, by simp, fun a ha b hb => ?_⟩
          rw [List.mem_singleton.mp hb]
          intro e
          rw [e] at ha
          have := isSome_mem.mpr ha
          rw [h.2] at this
          cases this
        · show (insL σ.2.1 σ.2.1.length _).length ≤ σ.2.2.2.1
          rw [insL_len (Nat.le_refl _)]; omega
      · exact ho
  · exact ho
theorem inP_app {P : List Pers} {L : List Nat} {q : Pers} (h : inP P L) : inP (P ++ [q]) L := fun x hx => by
  rw [List.length_append]
  exact Nat.lt_of_lt_of_le (h x hx) (Nat.le_add_right _ _)
theorem okW_per {B : List Nat} {k : Tok} {σ : WS} (ho : okW σ) : okW (perF B k σ).2.2 := by
  obtain ⟨o1, o2, o3, o4, o5, o6⟩ := ho
  unfold perF
  split
  · split
    · exact ⟨inP_app o1, o2, o3, o4, o5, o6⟩
    · exact ⟨o1, o2, o3, o4, o5, o6⟩
  · exact ⟨o1, o2, o3, o4, o5, o6⟩
theorem okW_st {B : List Nat} {k : Tok} {σ : WS} (ho : okW σ) : okW (stF B k σ).2.2 := by
  unfold stF
  split
  · exact okW_per ho
  · split
    · exact okW_clm ho
    · split
      · obtain ⟨o1, o2, o3, o4, o5, o6⟩ := ho
        exact ⟨fun x hx => absurd hx List.not_mem_nil, List.nodup_nil, Nat.zero_le _, o4, o5, o6⟩
      · split
        · exact okW_tel ho (by omega)
        · split
          · exact okW_tel ho (by omega)
          · split
            · exact okW_tel ho (by omega)
            · exact ho
section RE
variable {d : Nat} {h : PH} {r q t l w : Nat} {B : List Nat}
theorem valF_succ (s m : Nat) : valF B s (m + 1) = 10 * valF B s m + (B.getD (s + m) 0 - 48) := rfl
theorem l_number {k : Tok} (hR : ReadS h r q t k) (hT : TapeS h t l B) (hk : tokOK B k) (h2 : k.1 = 2) (h3 : k.2.2 - k.2.1 ≤ 3) : ∀ m c, k.2.2 - (k.2.1 + c) = m → k.2.1 + c ≤ k.2.2 → J mX3_number (d + 2) 30 [some (.ref r), some (.int (nI (valF B k.2.1 c))), some (.int (nI (k.2.1 + c)))] [] h (some (.int (nI (valF B k.2.1 (k.2.2 - k.2.1))))) h := by
  obtain ⟨⟨r1, r2, r3, r4⟩, r5, r6, r7⟩ := hR
  obtain ⟨k1, k2, k3, k4, k5⟩ := hk
  have h250 := hT.2.2.2.2.1
  intro m
  induction m with
  | zero =>
    intro c hc hl
    have : k.2.2 - k.2.1 = c := by omega
    rw [this]
    exact k_X3_number_30 r1 (fun _ => k_X3_number_61) (fun z => absurd (by rw [r7]; exact nI_le (by omega) (by omega)) z)
  | succ m ih =>
    intro c hc hl
    have hlt : k.2.1 + c < k.2.2 := by omega
    have hd := of_decide_eq_true (k3 h2 (k.2.1 + c) (by omega) hlt)
    refine k_X3_number_30 r1 (fun z => absurd z (by rw [r7]; exact nI_ge hlt (by omega))) (fun _ => k_X3_number_38 r1 r2 (t_letter (d := d) hT (by omega)) (Or.inl rfl) hT.1 ?_)
    have e : (10 : Int32) * nI (valF B k.2.1 c) + nI (B.getD (k.2.1 + c) 0) - (48 : Int32) = nI (valF B k.2.1 (c + 1)) := by
      rw [show (10 : Int32) = nI 10 from rfl, show (48 : Int32) = nI 48 from rfl, pk_mul, nI_add, pk_sub (by omega)]
      rw [valF_succ]
      congr 1
      omega
    rw [e, nI_1]
    exact ih (c + 1) (by omega) (by omega)
theorem t_number {k : Tok} (hR : ReadS h r q t k) (hT : TapeS h t l B) (hk : tokOK B k) : JMt mX3_number (some .int) (d + 2) [.ref r] h (some (.int (oI (numF B k)))) h := by
  have hR0 := hR
  obtain ⟨⟨r1, r2, r3, r4⟩, r5, r6, r7⟩ := hR
  have hk0 := hk
  obtain ⟨k1, k2, k3, k4, k5⟩ := hk
  have h250 := hT.2.2.2.2.1
  have no : ∀ e : numF B k = none, J mX3_number (d + 2) 21 [some (.ref r), none, none] [] h (some (.int (oI (numF B k)))) h := fun e => by rw [e]; exact k_X3_number_21
  refine jm mi_X3_number (Nat.le_of_ble_eq_true rfl) ⟨.int, rfl, rfl⟩ rfl (k_X3_number_0 r1 (fun z => no ?_) (fun z => k_X3_number_8 r1 (fun z2 => ?_) (fun z2 => no ?_)))
  · rw [r5] at z
    exact if_neg (fun y => z (by rw [y.1]; rfl))
  · rw [r5, show (2 : Int32) = nI 2 from rfl, nI_eq (by omega) (by omega)] at z
    rw [r7, r6, pk_sub k1, show (3 : Int32) = nI 3 from rfl, nI_leI (by omega) (by omega)] at z2
    have e : numF B k = some (valF B k.2.1 (k.2.2 - k.2.1)) := if_pos ⟨z, z2⟩
    rw [e]
    refine k_X3_number_23 r1 ?_
    rw [r6]
    exact l_number (d := d) hR0 hT hk0 z z2 _ 0 rfl k1
  · rw [r7, r6, pk_sub k1, show (3 : Int32) = nI 3 from rfl, nI_leI (by omega) (by omega)] at z2
    exact if_neg (fun y => z2 y.2)
theorem l_isWord {k : Tok} {i : Nat} (hi : i < 12) (hR : ReadS h r q t k) (hT : TapeS h t l B) (hk : tokOK B k) (h1 : k.1 = 1) (h2 : k.2.2 - k.2.1 = lenS i) : ∀ m j, lenS i - j = m → j ≤ lenS i → (∀ c, c < j → nI (B.getD (k.2.1 + c) 0) = chr i c) → J mX3_isWord (d + 4) 28 [some (.ref r), some (.retAddr (6 + i)), some (.int (nI j))] [] h (some (.int (bI (wordB B k i)))) h := by
  obtain ⟨⟨r1, r2, r3, r4⟩, r5, r6, r7⟩ := hR
  obtain ⟨k1, k2, k3, k4, k5⟩ := hk
  have h250 := hT.2.2.2.2.1
  have h6 := lenS_le i hi
  intro m
  induction m with
  | zero =>
    intro j hj hl hc
    rw [show wordB B k i = true from decide_eq_true ⟨h1, h2, fun c hcl => hc c (by omega)⟩]
    exact k_X3_isWord_T_28 (t_length (d := d + 2) hi) (Or.inl rfl) hi (fun _ => k_X3_isWord_T_65) (fun z => absurd (nI_le (by omega) (by omega)) z)
  | succ m ih =>
    intro j hj hl hc
    have hjl : j < lenS i := by omega
    have hlet : JMt mX5_letter (some .int) (d + 3) [.ref t, .int (hI h r 3 + nI j)] h (some (.int (nI (B.getD (k.2.1 + j) 0)))) h := by rw [r6, nI_add]; exact t_letter (d := d + 2) hT (by omega)
    refine k_X3_isWord_T_28 (t_length (d := d + 2) hi) (Or.inl rfl) hi (fun z => absurd z (nI_ge hjl (by omega))) (fun _ => k_X3_isWord_T_36 r1 r2 hlet (Or.inl rfl) hT.1 (t_charAt (d := d) hi hjl) (Or.inl rfl) hi (fun z => k_X3_isWord_T_59 ?_) (fun z => ?_))
    · rw [nI_1]
      refine ih (j + 1) (by omega) (by omega) (fun c hcl => ?_)
      by_cases e : c = j
      · rw [e]; exact z
      · exact hc c (by omega)
    · rw [show wordB B k i = false from decide_eq_false (fun y => z (y.2.2 j hjl))]
      exact k_X3_isWord_T_57
theorem t_isWord {k : Tok} {i : Nat} (hi : i < 12) (hR : ReadS h r q t k) (hT : TapeS h t l B) (hk : tokOK B k) : JMt mX3_isWord (some .boolean) (d + 4) [.ref r, .retAddr (6 + i)] h (some (.int (bI (wordB B k i)))) h := by
  have hR0 := hR
  obtain ⟨⟨r1, r2, r3, r4⟩, r5, r6, r7⟩ := hR
  have hk0 := hk
  obtain ⟨k1, k2, k3, k4, k5⟩ := hk
  have h250 := hT.2.2.2.2.1
  have h6 := lenS_le i hi
  have no : ∀ e : wordB B k i = false, J mX3_isWord (d + 4) 24 [some (.ref r), some (.retAddr (6 + i)), none] [] h (some (.int (bI (wordB B k i)))) h := fun e => by rw [e]; exact k_X3_isWord_T_24
  refine jm mi_X3_isWord (Nat.le_of_ble_eq_true rfl) ⟨.boolean, rfl, by cases wordB B k i <;> rfl⟩ rfl (k_X3_isWord_T_0 r1 (fun z => no ?_) (fun z => k_X3_isWord_T_8 r1 (t_length (d := d + 2) hi) (Or.inl rfl) hi (fun z2 => ?_) (fun z2 => no ?_)))
  · rw [r5] at z
    exact decide_eq_false (fun y => z (by rw [y.1]; rfl))
  · rw [r5, show (1 : Int32) = nI 1 from rfl, nI_eq (by omega) (by omega)] at z
    rw [r7, r6, pk_sub k1, nI_eq (by omega) (by omega)] at z2
    exact k_X3_isWord_T_26 (l_isWord (d := d) hi hR0 hT hk0 z z2 _ 0 rfl (Nat.zero_le _) (fun c hc => absurd hc (Nat.not_lt_zero c)))
  · rw [r7, r6, pk_sub k1, nI_eq (by omega) (by omega)] at z2
    exact decide_eq_false (fun y => z2 y.2.1)
/-- the next token is read -/
theorem t_next {k : Tok} (hR : ReadS h r q t k) (hT : TapeS h t l B) (hk : tokOK B k) : ∃ h', JMt mX3_step none (d + 2) [.ref r] h none h' ∧ Upd (fun i => i = r) h h' ∧ ReadS h' r q t (tokF B k.2.2) ∧ TapeS h' t l B ∧ tokOK B (tokF B k.2.2) := by
  obtain ⟨h1, a1, a2, a3⟩ := t_step (d := d) hR.1 hT hR.2.2.2 hk.2.1
  have hne := read_ne hR.1 hT
  exact ⟨h1, a1, a2, a3, hT.keep a2 hne.1 hne.2.1, (tokF_ok hk.2.1).1⟩
theorem t_didTell {k : Tok} {what : Nat} {σ : WS} (hw : what < 3) (hR : ReadS h r q t k) (hT : TapeS h t l B) (hk : tokOK B k) (hW : WorldS h w σ) (sr : ¬ inW w r) : ∃ h', JMt mX3_didTell (some .boolean) (d + 3) [.ref r, .ref w, .int (nI what)] h (some (.int (bI (telF B k what σ).1))) h' ∧ Upd (rdw r q w) h h' ∧ ReadS h' r q t (telF B k what σ).2.1 ∧ WorldS h' w (telF B k what σ).2.2 := by
  obtain ⟨h1, s1, s2, s3, s4, s5⟩ := t_next (d := d) hR hT hk
  have hU1 : Upd (rdw r q w) h h1 := s2.mono (fun i z => Or.inl z)
  have hW1 := hW.keep s2 (fun i z e => sr (by rw [← e]; exact z))
  have hN := t_number (d := d) s3 s4 s5
  have hlt := fun v => numF_lt (v := v) s5
  unfold telF
  cases hv : numF B (tokF B k.2.2) with
  | none =>
    rw [hv] at hN
    dsimp only
    exact ⟨h1, jm mi_X3_didTell (Nat.le_of_ble_eq_true rfl) rB rfl (k_X3_didTell_0 s1 (Or.inl s2.1) hR.1.1 hN (Or.inl rfl) s3.1.1 (fun _ => k_X3_didTell_23) (fun z => absurd rfl z)), hU1, s3, hW1⟩
  | some v =>
    rw [hv] at hN
    have hv3 := hlt v hv
    have hM := t_mayTell (d := d + 1) (what := nI what) (v := nI v) hW1
    rw [nI_toInt (n := what) (by omega), nI_toInt (n := v) (by omega)] at hM
    dsimp only
    cases hb : tellB σ.2.1.length (what : Int) (v : Int) with
    | false =>
      rw [hb] at hM
      rw [if_neg (by decide)]
      exact ⟨h1, jm mi_X3_didTell (Nat.le_of_ble_eq_true rfl) rB rfl (k_X3_didTell_0 s1 (Or.inl s2.1) hR.1.1 hN (Or.inl rfl) s3.1.1 (fun z => absurd z (nI_nneg1 (by omega))) (fun _ => k_X3_didTell_14 hM (Or.inl rfl) hW1.1 (fun z => absurd rfl z) (fun _ => k_X3_didTell_23))), hU1, s3, hW1⟩
    | true =>
      rw [hb] at hM
      rw [if_pos rfl]
      obtain ⟨h2, c1, c2, c3⟩ := t_changeSetting (d := d + 2) (k := what) (v := v) hW1 hw
      exact ⟨h2, jm mi_X3_didTell (Nat.le_of_ble_eq_true rfl) rB rfl (k_X3_didTell_0 s1 (Or.inl s2.1) hR.1.1 hN (Or.inl rfl) s3.1.1 (fun z => absurd z (nI_nneg1 (by omega))) (fun _ => k_X3_didTell_14 hM (Or.inl rfl) hW1.1 (fun _ => k_X3_didTell_25 c1 (Or.inl c2.1) hW1.1) (fun z => absurd z (by decide)))), hU1.tr (c2.mono (fun i z => Or.inr (Or.inr z))), s3.keep c2 sr, c3⟩
theorem t_didClimb {k : Tok} {σ : WS} (hR : ReadS h r q t k) (hT : TapeS h t l B) (hk : tokOK B k) (hW : WorldS h w σ) (ho : okW σ) (sr : ¬ inW w r) : ∃ h', JMt mX3_didClimb (some .boolean) (d + 3) [.ref r, .ref w] h (some (.int (bI (clmF B k σ).1))) h' ∧ Upd (rdw r q w) h h' ∧ ReadS h' r q t (clmF B k σ).2.1 ∧ WorldS h' w (clmF B k σ).2.2 := by
  obtain ⟨o1, o2, o3, o4, o5, o6⟩ := ho
  have hW0 := hW
  obtain ⟨w1, w2, w3, w4, w5, w6, w7, w8, w9, w10⟩ := hW
  have hl8 := w5.2.2.2.2.2.1
  have hp8 := w4.2.2.2.2.1
  have hsz := w5.2.2.2.2.1
  unfold clmF
  by_cases hm : σ.2.1.length < σ.2.2.2.1
  · rw [if_pos hm]
    obtain ⟨h1, s1, s2, s3, s4, s5⟩ := t_next (d := d) hR hT hk
    have hU1 : Upd (rdw r q w) h h1 := s2.mono (fun i z => Or.inl z)
    have hW1 := hW0.keep s2 (fun i z e => sr (by rw [← e]; exact z))
    have hN := t_number (d := d) s3 s4 s5
    have hlt := fun v => numF_lt (v := v) s5
    have ent : ∀ {o : Option Value} {h'}, J mX3_didClimb (d + 3) 16 [some (.ref r), some (.ref w), none] [] h o h' → RetT (some .boolean) o → JMt mX3_didClimb (some .boolean) (d + 3) [.ref r, .ref w] h o h' := fun kk ht =>
      jm mi_X3_didClimb (Nat.le_of_ble_eq_true rfl) ht rfl (k_X3_didClimb_0 w1 w3 w5.1 (fun _ => kk) (fun z => absurd (by rw [hsz, w7]; exact nI_lt hm (by omega)) z))
    cases hv : numF B (tokF B k.2.2) with
    | none =>
      rw [hv] at hN
      dsimp only
      have hH := t_has (d := d + 2) (x := -1) hW1.2.2.2.1
      rw [if_neg (fun z => z.1 (by decide))] at hH
      exact ⟨h1, ent (k_X3_didClimb_16 s1 (Or.inl s2.1) hR.1.1 hN (Or.inl rfl) s3.1.1 hW1.1 hW1.2.1 hH (Or.inl rfl) hW1.2.2.2.1.1 (fun _ => k_X3_didClimb_47) (fun z => absurd rfl z)) rB, hU1, s3, hW1⟩
    | some v =>
      rw [hv] at hN
      have hv3 := hlt v hv
      dsimp only
      have hH := t_has (d := d + 2) (x := nI v) hW1.2.2.2.1
      by_cases hpv : v < σ.1.length
      · rw [if_pos ⟨nI_lt0 (by omega), nI_lt hpv (by omega)⟩] at hH
        have hI' := t_isIn (d := d) (x := v) hW1.2.2.2.2.1 o1 hp8 (by omega)
        cases hs : (courseF σ.2.1 v 0).isSome with
        | true =>
          rw [hs] at hI'
          rw [if_neg (fun z => by have := z.2; cases this)]
          exact ⟨h1, ent (k_X3_didClimb_16 s1 (Or.inl s2.1) hR.1.1 hN (Or.inl rfl) s3.1.1 hW1.1 hW1.2.1 hH (Or.inl rfl) hW1.2.2.2.1.1 (fun z => absurd z (by decide)) (fun _ => k_X3_didClimb_36 hW1.1 hW1.2.2.1 hI' (Or.inl rfl) hW1.2.2.2.2.1.1 (fun z => absurd z (by decide)) (fun _ => k_X3_didClimb_47))) rB, hU1, s3, hW1⟩
        | false =>
          rw [hs] at hI'
          rw [if_pos ⟨hpv, rfl⟩]
          obtain ⟨h2, c1, c2, c3⟩ := t_push (d := d) (x := v) hW1.2.2.2.2.1 (by omega)
          have c2' : Upd (inW w) h1 h2 := c2.mono (fun i z => by unfold pc2 at z; unfold inW; omega)
          exact ⟨h2, ent (k_X3_didClimb_16 s1 (Or.inl s2.1) hR.1.1 hN (Or.inl rfl) s3.1.1 hW1.1 hW1.2.1 hH (Or.inl rfl) hW1.2.2.2.1.1 (fun z => absurd z (by decide)) (fun _ => k_X3_didClimb_36 hW1.1 hW1.2.2.1 hI' (Or.inl rfl) hW1.2.2.2.2.1.1 (fun _ => k_X3_didClimb_49 hW1.1 hW1.2.2.1 c1 (Or.inl c2.1) hW1.2.2.2.2.1.1) (fun z => absurd rfl z))) rB, hU1.tr (c2'.mono (fun i z => Or.inr (Or.inr z))), s3.keep c2' sr, hW1.pile c2 c3⟩
      · rw [if_neg (fun z => hpv ((nI_ltI (by omega) (by omega)).mp z.2))] at hH
        rw [if_neg (fun z => hpv z.1)]
        exact ⟨h1, ent (k_X3_didClimb_16 s1 (Or.inl s2.1) hR.1.1 hN (Or.inl rfl) s3.1.1 hW1.1 hW1.2.1 hH (Or.inl rfl) hW1.2.2.2.1.1 (fun _ => k_X3_didClimb_47) (fun z => absurd rfl z)) rB, hU1, s3, hW1⟩
  · rw [if_neg hm]
    exact ⟨h, jm mi_X3_didClimb (Nat.le_of_ble_eq_true rfl) rB rfl (k_X3_didClimb_0 w1 w3 w5.1 (fun z => absurd z (by rw [hsz, w7]; exact nI_nlt (by omega) (by omega))) (fun _ => k_X3_didClimb_14)), Upd.rf, hR, hW0⟩
end RE
