/-! statements of the class: people, wind, tape, climbs, days -/
def updW (T : TS) (σ : WS) : TS := (σ, T.2)
def s_person (T : TS) (k a w s n : Int32) : Int32 × TS := if mayB 0 k.toInt && mayB 1 a.toInt && mayB 2 w.toInt && mayB 3 s.toInt && mayB 4 n.toInt then (if T.1.1.length < 8 then (nI T.1.1.length, updW T (T.1.1 ++ [(nn k, nn a, nn w, nn s, nn n)], T.1.2)) else (rfI 4, rfT T 4)) else (rfI 0, rfT T 0)
def s_give (T : TS) (p w v : Int32) : Int32 × TS := if hasB T.1.1.length p && inB w 0 2 && mayB (2 + nn w) v.toInt then (nI (factP (pg T.1.1 (nn p)) (2 + nn w)), updW T (T.1.1.set (nn p) (setP (pg T.1.1 (nn p)) (2 + nn w) (nn v)), T.1.2)) else (rfI 0, rfT T 0)
def s_tell (T : TS) (w v : Int32) : Int32 × TS := if tellB T.1.2.1.length w.toInt v.toInt then (nI (if nn w = 0 then T.1.2.2.1 else if nn w = 1 then T.1.2.2.2.1 else T.1.2.2.2.2.1), updW T (setW T.1 (nn w) (nn v))) else (rfI 0, rfT T 0)
def updB (T : TS) (B : List Nat) : TS := (T.1, T.2.1, T.2.2.1, B, T.2.2.2.2)
def s_feed (T : TS) (b : Int32) : Int32 × TS := if inB b 0 255 then (if T.2.2.2.1.length < 250 then (nI (T.2.2.2.1.length + 1), updB T (T.2.2.2.1 ++ [nn b])) else (rfI 4, rfT T 4)) else (rfI 0, rfT T 0)
def s_wipe (T : TS) : Int32 × TS := (nI T.2.2.2.1.length, updB T [])
def s_tower (T : TS) : Int32 × TS := if (readA T.2.2.2.1 T.1).1 < 0 then (sI (readA T.2.2.2.1 T.1).1, rfT (updB T []) 0) else (sI (readA T.2.2.2.1 T.1).1, updW (updB T []) (readA T.2.2.2.1 T.1).2)
def s_climb (T : TS) (p : Int32) : Int32 × TS := if hasB T.1.1.length p then (if (courseF T.1.2.1 (nn p) 0).isSome || decide (T.1.2.2.2.1 ≤ T.1.2.1.length) then (rfI 3, rfT T 3) else (bI (firmB T.1.1 T.1.2.2.1 (insL T.1.2.1 T.1.2.1.length (nn p))), updW T (fallW (T.1.1, insL T.1.2.1 T.1.2.1.length (nn p), T.1.2.2)))) else (rfI 0, rfT T 0)
def s_comesOut (T : TS) : Int32 × TS := if T.1.2.1.length = 0 then (rfI 3, rfT T 3) else (nI (T.1.2.1.getD 0 0), updW T (fallW (T.1.1, delL T.1.2.1 0, T.1.2.2)))
def dayW (σ : WS) (n : Nat) : WS := itF (fun _ s => turnW s) n 0 σ
def s_days (T : TS) (n : Int32) : Int32 × TS := if inB n 1 60 then (if T.1.1.length = 0 then (rfI 3, rfT T 3) else (nI (tallL (dayW T.1 (nn n)).1 (dayW T.1 (nn n)).2.1), updW T (dayW T.1 (nn n)))) else (rfI 0, rfT T 0)
/-- a drawn wind: f tells it, g the seed behind it -/
def drwG (f : Int32 → Nat) (g : Int32 → Int32) (σ : WS) : WS := (σ.1, σ.2.1, f σ.2.2.2.2.2.2, σ.2.2.2.1, σ.2.2.2.2.1, σ.2.2.2.2.2.1, g σ.2.2.2.2.2.2)
def drnG (f : Int32 → Nat) (g : Int32 → Int32) (σ : WS) (n : Nat) : WS := itF (fun _ s => turnW (fallW (drwG f g s))) n 0 σ
def dN (s : Int32) : Nat := nn (highF (seedF s) - highF (seedF s) / (10 : Int32) * (10 : Int32))
theorem dN_lt (s : Int32) : dN s < 10 ∧ highF (seedF s) - highF (seedF s) / (10 : Int32) * (10 : Int32) = nI (dN s) := by
  obtain ⟨k, h1, h2⟩ := draw_nI (seedF s)
  unfold dN
  rw [h2, nn_I (by omega)]
  exact ⟨h1, rfl⟩
def s_drawn (T : TS) (n : Int32) : Int32 × TS := if inB n 1 60 then (if T.1.1.length = 0 then (rfI 3, rfT T 3) else ((drnG dN seedF T.1 (nn n)).2.2.2.2.2.1 - T.1.2.2.2.2.2.1, updW T (drnG dN seedF T.1 (nn n)))) else (rfI 0, rfT T 0)
def s_seed (T : TS) (v : Int32) : Int32 × TS := (T.1.2.2.2.2.2.2, updW T (T.1.1, T.1.2.1, T.1.2.2.1, T.1.2.2.2.1, T.1.2.2.2.2.1, T.1.2.2.2.2.2.1, v))
def s_image (T : TS) : Int32 × TS := (1, (T.1, (true, T.1), T.2.2))
theorem okW_fall {σ : WS} (h : okW σ) : okW (fallW σ) := by
  unfold fallW
  split
  · exact h
  · obtain ⟨o1, o2, o3, o4, o5, o6⟩ := h
    exact ⟨fun x hx => absurd hx List.not_mem_nil, List.nodup_nil, Nat.zero_le _, o4, o5, o6⟩
theorem nodup_del {L : List Nat} {k : Nat} (h : L.Nodup) : (delL L k).Nodup := by
  have e : (delL L k).Sublist L := by
    unfold delL
    conv => rhs; rw [← List.take_append_drop k L]
    exact List.Sublist.append (List.Sublist.refl _) (by rw [← List.drop_drop]; exact List.drop_sublist 1 _)
  exact h.sublist e
theorem del_sub {L : List Nat} {k x : Nat} (h : x ∈ delL L k) : x ∈ L := by
  unfold delL at h
  rcases List.mem_append.mp h with z | z
  · exact List.mem_of_mem_take z
  · exact List.mem_of_mem_drop z
theorem okW_ins {σ : WS} {p : Nat} (h : okW σ) (hp : p < σ.1.length) (hn : (courseF σ.2.1 p 0).isSome = false) (hl : σ.2.1.length < σ.2.2.2.1) : okW (σ.1, insL σ.2.1 σ.2.1.length p, σ.2.2) := by
  obtain ⟨o1, o2, o3, o4, o5, o6⟩ := h
  refine ⟨insL_in o1 hp, ?_, ?_, o4, o5, o6⟩
  · show (insL σ.2.1 σ.2.1.length p).Nodup
    rw [insL_end, List.nodup_append]
    refine ⟨o2, by simp, fun a ha b hb => ?_⟩
    rw [List.mem_singleton.mp hb]
    intro e
    rw [e] at ha
    have := isSome_mem.mpr ha
    rw [hn] at this
    cases this
  · show (insL σ.2.1 σ.2.1.length p).length ≤ σ.2.2.2.1
    rw [insL_len (Nat.le_refl _)]; omega
theorem okW_del {σ : WS} {k : Nat} (h : okW σ) (hk : k < σ.2.1.length) : okW (σ.1, delL σ.2.1 k, σ.2.2) := by
  obtain ⟨o1, o2, o3, o4, o5, o6⟩ := h
  exact ⟨delL_in o1, nodup_del o2, by show (delL σ.2.1 k).length ≤ σ.2.2.2.1; rw [delL_len hk]; omega, o4, o5, o6⟩
theorem nextN_not {n : Nat} {L : List Nat} : ∀ m x k, nextN n L m x = some k → (courseF L k 0).isSome = false
  | 0, _, _, h => by cases h
  | m + 1, x, k, h => by
    unfold nextN at h
    split at h
    · exact nextN_not m _ k h
    · rename_i hn
      cases h
      simpa using hn
theorem okW_turnL {σ : WS} (h : okW σ) : okW (σ.1, turnL σ.2.2.2.1 σ.1.length σ.2.1, σ.2.2) := by
  have h0 := h
  obtain ⟨o1, o2, o3, o4, o5, o6⟩ := h
  have hr : okW (σ.1, roomL σ.2.2.2.1 σ.1.length σ.2.1, σ.2.2) ∧ ((roomL σ.2.2.2.1 σ.1.length σ.2.1).length < σ.2.2.2.1) := by
    unfold roomL
    by_cases hc : σ.2.2.2.1 ≤ σ.2.1.length ∨ σ.1.length ≤ σ.2.1.length
    · rw [if_pos hc]
      rcases Nat.eq_zero_or_pos σ.2.1.length with z | z
      · have e : delL σ.2.1 0 = σ.2.1 := by rw [List.eq_nil_of_length_eq_zero z]; rfl
        rw [e]
        exact ⟨h0, by omega⟩
      · exact ⟨okW_del h0 z, by rw [delL_len z]; omega⟩
    · rw [if_neg hc]
      exact ⟨h0, by omega⟩
  unfold turnL
  cases hb : behindF σ.1.length (roomL σ.2.2.2.1 σ.1.length σ.2.1) with
  | none => exact hr.1
  | some k => exact okW_ins hr.1 (behindF_lt hb) (nextN_not _ _ _ hb) hr.2
theorem okW_turn {σ : WS} (h : okW σ) : okW (turnW σ) := by
  have h1 := okW_turnL h
  obtain ⟨o1, o2, o3, o4, o5, o6⟩ := h1
  refine okW_fall ⟨o1, o2, o3, o4, o5, ?_⟩
  show (if σ.2.2.2.2.1 < 999 then σ.2.2.2.2.1 + 1 else 999) ≤ 999
  split <;> omega
theorem okW_drw {f : Int32 → Nat} {g : Int32 → Int32} {σ : WS} (hf : ∀ s, f s < 10) (h : okW σ) : okW (drwG f g σ) := by
  have h1 := hf σ.2.2.2.2.2.2
  obtain ⟨o1, o2, o3, o4, o5, o6⟩ := h
  exact ⟨o1, o2, o3, by show f σ.2.2.2.2.2.2 ≤ 9; omega, o5, o6⟩
theorem fallW_P (σ : WS) : (fallW σ).1 = σ.1 := by unfold fallW; split <;> rfl
theorem turnW_P (σ : WS) : (turnW σ).1 = σ.1 := fallW_P _
theorem dayW_P (σ : WS) (n : Nat) : (dayW σ n).1 = σ.1 := itF_inv (I := fun s : WS => s.1 = σ.1) _ _ _ rfl (fun i s _ _ h => (turnW_P s).trans h)
theorem drnG_P (f : Int32 → Nat) (g : Int32 → Int32) (σ : WS) (n : Nat) : (drnG f g σ n).1 = σ.1 := itF_inv (I := fun s : WS => s.1 = σ.1) _ _ _ rfl (fun i s _ _ h => ((turnW_P _).trans (fallW_P _)).trans h)
theorem len_st {B : List Nat} {k : Tok} {σ : WS} : σ.1.length ≤ (stF B k σ).2.2.1.length := by
  have tel : ∀ {k what}, σ.1.length ≤ (telF B k what σ).2.2.1.length := fun {k what} => by
    unfold telF
    split
    · exact Nat.le_refl _
    · split <;> exact Nat.le_refl _
  unfold stF
  split
  · unfold perF
    split
    · split
      · show _ ≤ (σ.1 ++ [_]).length
        rw [List.length_append]; omega
      · exact Nat.le_refl _
    · exact Nat.le_refl _
  · split
    · unfold clmF
      split
      · split
        · exact Nat.le_refl _
        · split <;> exact Nat.le_refl _
      · exact Nat.le_refl _
    · split
      · exact Nat.le_refl _
      · split
        · exact tel
        · split
          · exact tel
          · split
            · exact tel
            · exact Nat.le_refl _
theorem len_read {B : List Nat} : ∀ f count k (σ : WS), σ.1.length ≤ (readF B f count k σ).2.1.length
  | 0, _, _, _ => Nat.le_refl _
  | f + 1, count, k, σ => by
    have h1 := len_st (B := B) (k := k) (σ := σ)
    unfold readF
    split
    · split
      · exact h1
      · split
        · exact Nat.le_trans h1 (len_read f _ _ _)
        · exact h1
    · exact h1
theorem read_b {B : List Nat} (hB : B.length ≤ 250) : ∀ f count k (σ : WS), count + f = 251 → tokOK B k → okW σ → -2250 ≤ (readF B f count k σ).1 ∧ (readF B f count k σ).1 ≤ 250
  | 0, count, k, σ, hc, hk, ho => by
    have h1 := hk.1
    have h2 := hk.2.1
    unfold readF
    constructor
    · show (-2250 : Int) ≤ -2000 - (k.2.1 : Int); omega
    · show (-2000 - (k.2.1 : Int)) ≤ 250; omega
  | f + 1, count, k, σ, hc, hk, ho => by
    have hk1 := tok_st (σ := σ) hk
    have hk2 := (tokF_ok hk1.2.1).1
    unfold readF
    split
    · split
      · constructor
        · show (-2250 : Int) ≤ (count : Int); omega
        · show (count : Int) ≤ 250; omega
      · split
        · exact read_b hB f _ _ _ (by omega) (tokF_ok hk2.2.1).1 (okW_st ho)
        · have h1 := hk2.1
          have h2 := hk2.2.1
          constructor
          · show (-2250 : Int) ≤ -2000 - _; omega
          · show (-2000 - _ : Int) ≤ 250; omega
    · have h1 := hk1.1
      have h2 := hk1.2.1
      constructor
      · show (-2250 : Int) ≤ -2000 - _; omega
      · show (-2000 - _ : Int) ≤ 250; omega
section CS
variable {d : Nat} {h : PH} {x : Nat} {O : Nat → Prop} {T : TS}
theorem cuR {M : JM} {as : List Value} {k : Nat} (hk : k < 5) (hX : XS h x O T) (hj : ∀ h1, JMt mX7_refuse (some .int) (d + 9) [.ref x, .int (rfI k)] h (some (.int (rfI k))) h1 → hn h1 = hn h → JMt M (some .int) (d + 10) as h (some (.int (rfI k))) h1) : CU M (d + 10) as h x O (rfI k) (rfT T k) := by
  obtain ⟨h1, a, b, c⟩ := refuse_x (d := d + 8) hk hX
  exact ⟨h1, hj h1 a b.1, b, c⟩
theorem okT_w {σ : WS} (hT : okT T) (ho : okW σ) (hl : T.1.1.length ≤ σ.1.length) : okT (updW T σ) := ⟨ho, hT.2.1, fun s hs p hp => Nat.lt_of_lt_of_le (hT.2.2 s hs p hp) hl⟩
theorem inWX {i : Nat} (y : inW (x + 1) i) : inX x i := by unfold inW at y; unfold inX; omega
theorem cuW {M : JM} {as : List Value} {v : Int32} {D : Nat} {σ : WS} {δ : WS} {L : List Nat} {R : Nat → Nat × Nat} (hT : okT T) (hC : XC h x O T δ L R) (ho : okW σ) (hl : T.1.1.length ≤ σ.1.length) (hj : ∃ h1, JMt M (some .int) D as h (some (.int v)) h1 ∧ Upd (inW (x + 1)) h h1 ∧ WorldS h1 (x + 1) σ) : CU M D as h x O v (updW T σ) := by
  obtain ⟨h1, a, b, c⟩ := hj
  exact ⟨h1, a, b.mono (fun i y => inWX y), okT_w hT ho hl, δ, L, R, hC.wor b c⟩
theorem mayB_nI {k : Nat} {v : Int32} (h : mayB k v.toInt = true) : ∃ n, n ≤ hiT k ∧ loT k ≤ n ∧ v = nI n ∧ n < 100 := by
  have hh := of_decide_eq_true h
  have h9 : hiT k ≤ 99 := by unfold hiT; repeat' split
                             all_goals omega
  obtain ⟨n, h1, h2⟩ := inr (x := v) (n := hiT k + 1) (by rw [lt0I]; omega) (by omega)
  rw [h2, nI_toInt (by omega)] at hh
  exact ⟨n, by omega, by omega, h2, by omega⟩
theorem c_person {k a w s n : Int32} (hX : XS h x O T) : CU mX7_person (d + 10) [.ref x, .int k, .int a, .int w, .int s, .int n] h x O (s_person T k a w s n).1 (s_person T k a w s n).2 := by
  have hX0 := hX
  obtain ⟨hT, δ, L, R, hC⟩ := hX
  have hC0 := hC
  obtain ⟨x1, x2, x3, x4, x5, x6, x7, x8, x9, x10, x11, x12, x13⟩ := hC
  obtain ⟨o1, o2, o3, o4, o5, o6⟩ := hT.1
  have g := x1.1
  have f0 := x1.2.1
  have f3 := x1.2.2.2.2.1
  have W1 := x3.1
  have Wc := x3.2.1
  have Wp := x3.2.2.1
  have C := x3.2.2.2.1
  have Pl := x3.2.2.2.2.1
  have hw := x3.2.2.2.2.2.1
  have hm := x3.2.2.2.2.2.2.1
  have n8 := C.2.2.2.2.1
  have ok := C.2.2.2.2.2.2
  have cn := C.2.2.2.1
  have l8 := Pl.2.2.2.2.2.1
  have sz := Pl.2.2.2.2.1
  have mb : ∀ (j : Nat) (v : Int32), j < 5 → JMt mX7_mayBe (some .boolean) (d + 9) [.int (nI j), .int v] h (some (.int (bI (mayB j v.toInt)))) h := fun j v hj => t_mayBe (d := d + 8) hj
  have no : ∀ {b : Bool}, b = true → ∀ {P : Prop}, bI b = 0 → P := fun e _ z => absurd z (by rw [e]; decide)
  have ye : ∀ {b : Bool}, b = false → ∀ {P : Prop}, ¬ bI b = 0 → P := fun e _ z => absurd (by rw [e]; rfl) z
  unfold s_person
  have bad : ∀ {h1 : PH}, JMt mX7_refuse (some .int) (d + 9) [.ref x, .int (rfI 0)] h (some (.int (rfI 0))) h1 → hn h1 = hn h → J mX7_person (d + 10) 42 [some (.ref x), some (.int k), some (.int a), some (.int w), some (.int s), some (.int n)] [] h (some (.int (rfI 0))) h1 := fun r e => k_X7_person_42 r (Or.inl e) g
  cases b0 : mayB 0 k.toInt with
  | false => rw [Bool.false_and, Bool.false_and, Bool.false_and, Bool.false_and, if_neg (by decide)]; exact cuR (k := 0) (by omega) hX0 (fun h1 r e => jm mi_X7_person (Nat.le_of_ble_eq_true rfl) ⟨.int, rfl, rfl⟩ rfl (k_X7_person_0 (mb 0 k (by omega)) (Or.inl rfl) (fun _ => bad r e) (ye b0)))
  | true =>
  cases b1 : mayB 1 a.toInt with
  | false => rw [Bool.and_false, Bool.false_and, Bool.false_and, Bool.false_and, if_neg (by decide)]; exact cuR (k := 0) (by omega) hX0 (fun h1 r e => jm mi_X7_person (Nat.le_of_ble_eq_true rfl) ⟨.int, rfl, rfl⟩ rfl (k_X7_person_0 (mb 0 k (by omega)) (Or.inl rfl) (no b0) (fun _ => k_X7_person_8 (mb 1 a (by omega)) (Or.inl rfl) (fun _ => bad r e) (ye b1))))
  | true =>
  cases b2 : mayB 2 w.toInt with
  | false => rw [Bool.and_false, Bool.false_and, Bool.false_and, if_neg (by decide)]; exact cuR (k := 0) (by omega) hX0 (fun h1 r e => jm mi_X7_person (Nat.le_of_ble_eq_true rfl) ⟨.int, rfl, rfl⟩ rfl (k_X7_person_0 (mb 0 k (by omega)) (Or.inl rfl) (no b0) (fun _ => k_X7_person_8 (mb 1 a (by omega)) (Or.inl rfl) (no b1) (fun _ => k_X7_person_16 (mb 2 w (by omega)) (Or.inl rfl) (fun _ => bad r e) (ye b2)))))
  | true =>
  cases b3 : mayB 3 s.toInt with
  | false => rw [Bool.and_false, Bool.false_and, if_neg (by decide)]; exact cuR (k := 0) (by omega) hX0 (fun h1 r e => jm mi_X7_person (Nat.le_of_ble_eq_true rfl) ⟨.int, rfl, rfl⟩ rfl (k_X7_person_0 (mb 0 k (by omega)) (Or.inl rfl) (no b0) (fun _ => k_X7_person_8 (mb 1 a (by omega)) (Or.inl rfl) (no b1) (fun _ => k_X7_person_16 (mb 2 w (by omega)) (Or.inl rfl) (no b2) (fun _ => k_X7_person_24 (mb 3 s (by omega)) (Or.inl rfl) (fun _ => bad r e) (ye b3))))))
  | true =>
  cases b4 : mayB 4 n.toInt with
  | false => rw [Bool.and_false, if_neg (by decide)]; exact cuR (k := 0) (by omega) hX0 (fun h1 r e => jm mi_X7_person (Nat.le_of_ble_eq_true rfl) ⟨.int, rfl, rfl⟩ rfl (k_X7_person_0 (mb 0 k (by omega)) (Or.inl rfl) (no b0) (fun _ => k_X7_person_8 (mb 1 a (by omega)) (Or.inl rfl) (no b1) (fun _ => k_X7_person_16 (mb 2 w (by omega)) (Or.inl rfl) (no b2) (fun _ => k_X7_person_24 (mb 3 s (by omega)) (Or.inl rfl) (no b3) (fun _ => k_X7_person_33 (mb 4 n (by omega)) (Or.inl rfl) (ye b4) (fun _ => bad r e)))))))
  | true =>
    rw [if_pos (show (true && true && true && true && true) = true from rfl)]
    have ent : ∀ {o : Option Value} {h' : PH}, RetT (some .int) o → J mX7_person (d + 10) 50 [some (.ref x), some (.int k), some (.int a), some (.int w), some (.int s), some (.int n)] [] h o h' → JMt mX7_person (some .int) (d + 10) [.ref x, .int k, .int a, .int w, .int s, .int n] h o h' := fun rt kk =>
      jm mi_X7_person (Nat.le_of_ble_eq_true rfl) rt rfl (k_X7_person_0 (mb 0 k (by omega)) (Or.inl rfl) (no b0) (fun _ => k_X7_person_8 (mb 1 a (by omega)) (Or.inl rfl) (no b1) (fun _ => k_X7_person_16 (mb 2 w (by omega)) (Or.inl rfl) (no b2) (fun _ => k_X7_person_24 (mb 3 s (by omega)) (Or.inl rfl) (no b3) (fun _ => k_X7_person_33 (mb 4 n (by omega)) (Or.inl rfl) (fun _ => kk) (no b4))))))
    have hF := t_isFull (d := d + 9) C
    by_cases hl : T.1.1.length < 8
    · rw [if_pos hl] at hF
      rw [if_pos hl]
      obtain ⟨k, k1, k2, rfl, k3⟩ := mayB_nI b0
      obtain ⟨a, a1, a2, rfl, a3⟩ := mayB_nI b1
      obtain ⟨w, w1, w2, rfl, w3⟩ := mayB_nI b2
      obtain ⟨s, s1, s2, rfl, s3⟩ := mayB_nI b3
      obtain ⟨n, n1, n2, rfl, n3⟩ := mayB_nI b4
      rw [nn_I (by omega), nn_I (by omega), nn_I (by omega), nn_I (by omega), nn_I (by omega)]
      have hok : okP (k, a, w, s, n) := ⟨k1, a1, ⟨w2, w1⟩, s1, n1⟩
      obtain ⟨h1, j1, j2, j3⟩ := t_join (d := d + 6) C hl hok
      exact cuW hT hC0 ⟨inP_app o1, o2, o3, o4, o5, o6⟩ (by rw [List.length_append]; omega) ⟨h1, ent ⟨.int, rfl, rfl⟩ (k_X7_person_50 g f0 W1 Wc hF (Or.inl rfl) C.1 (fun _ => k_X7_person_71 g f0 W1 Wc j1 (Or.inl j2.1) C.1) (fun z => absurd rfl z)), j2.mono (fun i y => by unfold pc1 at y; unfold inW; omega), x3.crowd j2 j3⟩
    · rw [if_neg hl] at hF
      rw [if_neg hl]
      exact cuR (k := 4) (by omega) hX0 (fun h1 r e => ent ⟨.int, rfl, rfl⟩ (k_X7_person_50 g f0 W1 Wc hF (Or.inl rfl) C.1 (fun z => absurd z (by decide)) (fun _ => k_X7_person_63 r (Or.inl e) g)))
theorem okP_set {q : Pers} {w v : Nat} (hq : okP q) (hw : w < 3) (h1 : loT (2 + w) ≤ v) (h2 : v ≤ hiT (2 + w)) : okP (setP q (2 + w) v) := by
  obtain ⟨q1, q2, q3, q4, q5⟩ := hq
  have : w = 0 ∨ w = 1 ∨ w = 2 := by omega
  rcases this with rfl | rfl | rfl
  · exact ⟨q1, q2, ⟨h1, h2⟩, q4, q5⟩
  · exact ⟨q1, q2, q3, h2, q5⟩
  · exact ⟨q1, q2, q3, q4, h2⟩
theorem inP_set {P : List Pers} {L : List Nat} {i : Nat} {q : Pers} (h : inP P L) : inP (P.set i q) L := fun x hx => by rw [List.length_set]; exact h x hx
theorem c_give {p w v : Int32} (hX : XS h x O T) : CU mX7_give (d + 10) [.ref x, .int p, .int w, .int v] h x O (s_give T p w v).1 (s_give T p w v).2 := by
  have hX0 := hX
  obtain ⟨hT, δ, L, R, hC⟩ := hX
  have hC0 := hC
  obtain ⟨x1, x2, x3, x4, x5, x6, x7, x8, x9, x10, x11, x12, x13⟩ := hC
  obtain ⟨o1, o2, o3, o4, o5, o6⟩ := hT.1
  have g := x1.1
  have f0 := x1.2.1
  have f3 := x1.2.2.2.2.1
  have W1 := x3.1
  have Wc := x3.2.1
  have Wp := x3.2.2.1
  have C := x3.2.2.2.1
  have Pl := x3.2.2.2.2.1
  have hw := x3.2.2.2.2.2.1
  have hm := x3.2.2.2.2.2.2.1
  have n8 := C.2.2.2.2.1
  have ok := C.2.2.2.2.2.2
  have cn := C.2.2.2.1
  have l8 := Pl.2.2.2.2.2.1
  have sz := Pl.2.2.2.2.1
  have hH := t_hasB (d := d + 9) (v := p) C
  unfold s_give
  cases hp : hasB T.1.1.length p with
  | false =>
    rw [hp] at hH
    rw [Bool.false_and, Bool.false_and, if_neg (by decide)]
    exact cuR (k := 0) (by omega) hX0 (fun h1 r e => jm mi_X7_give (Nat.le_of_ble_eq_true rfl) ⟨.int, rfl, rfl⟩ rfl (k_X7_give_0 g f0 W1 Wc hH (Or.inl rfl) C.1 (fun _ => k_X7_give_33 r (Or.inl e) g) (fun z => absurd rfl z)))
  | true =>
    rw [hp] at hH
    rw [Bool.true_and]
    obtain ⟨i, hi, rfl⟩ := hasB_nI hp
    cases hb : inB w 0 2 with
    | false =>
      rw [Bool.false_and, if_neg (by decide)]
      have hb := of_decide_eq_false hb
      refine cuR (k := 0) (by omega) hX0 (fun h1 r e => jm mi_X7_give (Nat.le_of_ble_eq_true rfl) ⟨.int, rfl, rfl⟩ rfl (k_X7_give_0 g f0 W1 Wc hH (Or.inl rfl) C.1 (fun z => absurd z (by decide)) (fun _ => k_X7_give_14 (fun _ => k_X7_give_33 r (Or.inl e) g) (fun z => k_X7_give_18 (fun _ => k_X7_give_33 r (Or.inl e) g) (fun z2 => ?_)))))
      rw [lt0I] at z
      rw [show (2 : Int32) = nI 2 from rfl, gtLit (by omega)] at z2
      omega
    | true =>
      rw [Bool.true_and]
      obtain ⟨w, hw2, rfl⟩ := inB_nI (n := 2) (by omega) hb
      rw [nn_I (k := i) (by omega), nn_I (k := w) (by omega)]
      have e2 : (2 : Int32) + nI w = nI (2 + w) := nI_add 2 w
      have hB : JMt mX7_mayBe (some .boolean) (d + 9) [.int ((2 : Int32) + nI w), .int v] h (some (.int (bI (mayB (2 + w) v.toInt)))) h := by rw [e2]; exact t_mayBe (d := d + 8) (by omega)
      have ent : ∀ {o : Option Value} {h' : PH}, RetT (some .int) o → (¬ bI (mayB (2 + w) v.toInt) = 0 → J mX7_give (d + 10) 41 [some (.ref x), some (.int (nI i)), some (.int (nI w)), some (.int v), none] [] h o h') → (bI (mayB (2 + w) v.toInt) = 0 → J mX7_give (d + 10) 33 [some (.ref x), some (.int (nI i)), some (.int (nI w)), some (.int v), none] [] h o h') → JMt mX7_give (some .int) (d + 10) [.ref x, .int (nI i), .int (nI w), .int v] h o h' := fun rt k1 k2 =>
        jm mi_X7_give (Nat.le_of_ble_eq_true rfl) rt rfl (k_X7_give_0 g f0 W1 Wc hH (Or.inl rfl) C.1 (fun z => absurd z (by decide)) (fun _ => k_X7_give_14 (fun z => absurd z (nI_lt0 (by omega))) (fun z => k_X7_give_18 (fun z => absurd z (nI_nlt (a := 2) hw2 (by omega))) (fun _ => k_X7_give_23 hB (Or.inl rfl) k1 k2))))
      cases hm' : mayB (2 + w) v.toInt with
      | false =>
        rw [if_neg (by decide)]
        exact cuR (k := 0) (by omega) hX0 (fun h1 r e => ent ⟨.int, rfl, rfl⟩ (fun z => absurd (by rw [hm']; rfl) z) (fun _ => k_X7_give_33 r (Or.inl e) g))
      | true =>
        rw [if_pos rfl]
        obtain ⟨v, v1, v2, rfl, v3⟩ := mayB_nI hm'
        rw [nn_I (by omega)]
        have hok := okP_set (pg_ok ok i) (by omega) v2 v1
        obtain ⟨h1, j1, j2, j3⟩ := t_changeTrait (d := d + 6) C hi (show 2 + w < 5 by omega) (by omega) hok
        have j1' : JMt mX0_changeTrait none (d + 9) [.ref (x + 1 + 1), .int (nI i), .int ((2 : Int32) + nI w), .int (nI v)] h none h1 := by rw [e2]; exact j1
        exact cuW hT hC0 ⟨inP_set o1, o2, o3, o4, o5, o6⟩ (by rw [List.length_set]; exact Nat.le_refl _) ⟨h1, ent ⟨.int, rfl, rfl⟩ (fun _ => k_X7_give_41 g f0 W1 Wc (by rw [e2]; exact t_fact C hi (by omega)) (Or.inl rfl) C.1 g f0 W1 Wc j1' (Or.inl j2.1) C.1) (fun z => absurd z (by rw [hm']; decide)), j2.mono (fun i y => by unfold pc1 at y; unfold inW; omega), x3.crowd j2 j3⟩
theorem c_tell {w v : Int32} (hX : XS h x O T) : CU mX7_tell (d + 10) [.ref x, .int w, .int v] h x O (s_tell T w v).1 (s_tell T w v).2 := by
  have hX0 := hX
  obtain ⟨hT, δ, L, R, hC⟩ := hX
  have hC0 := hC
  obtain ⟨x1, x2, x3, x4, x5, x6, x7, x8, x9, x10, x11, x12, x13⟩ := hC
  obtain ⟨o1, o2, o3, o4, o5, o6⟩ := hT.1
  have g := x1.1
  have f0 := x1.2.1
  have f3 := x1.2.2.2.2.1
  have W1 := x3.1
  have Wc := x3.2.1
  have Wp := x3.2.2.1
  have C := x3.2.2.2.1
  have Pl := x3.2.2.2.2.1
  have hw := x3.2.2.2.2.2.1
  have hm := x3.2.2.2.2.2.2.1
  have n8 := C.2.2.2.2.1
  have ok := C.2.2.2.2.2.2
  have cn := C.2.2.2.1
  have l8 := Pl.2.2.2.2.2.1
  have sz := Pl.2.2.2.2.1
  have hM := t_mayTell (d := d + 8) (what := w) (v := v) x3
  unfold s_tell
  cases hb : tellB T.1.2.1.length w.toInt v.toInt with
  | false =>
    rw [hb] at hM
    rw [if_neg (by decide)]
    exact cuR (k := 0) (by omega) hX0 (fun h1 r e => jm mi_X7_tell (Nat.le_of_ble_eq_true rfl) ⟨.int, rfl, rfl⟩ rfl (k_X7_tell_0 g f0 hM (Or.inl rfl) W1 (fun z => absurd rfl z) (fun _ => k_X7_tell_12 r (Or.inl e) g)))
  | true =>
    rw [hb] at hM
    rw [if_pos rfl]
    have hbb := of_decide_eq_true hb
    obtain ⟨k, hk, rfl⟩ := inr (x := w) (n := 3) (by rw [lt0I]; omega) (by omega)
    obtain ⟨u, hu, rfl⟩ := inr (x := v) (n := 1000) (by rw [lt0I]; omega) (by omega)
    rw [nn_I (by omega), nn_I (by omega)]
    rw [nI_toInt (by omega), nI_toInt (by omega)] at hb
    obtain ⟨h1, j1, j2, j3⟩ := t_changeSetting (d := d + 9) (k := k) (v := u) x3 hk
    exact cuW hT hC0 (okW_set hT.1 hk hb) (Nat.le_refl _) ⟨h1, jm mi_X7_tell (Nat.le_of_ble_eq_true rfl) ⟨.int, rfl, rfl⟩ rfl (k_X7_tell_0 g f0 hM (Or.inl rfl) W1 (fun _ => k_X7_tell_20 g f0 (t_setting x3 hk) (Or.inl rfl) W1 g f0 j1 (Or.inl j2.1) W1) (fun z => absurd z (by decide))), j2, j3⟩
theorem c_feed {b : Int32} (hX : XS h x O T) : CU mX7_feed (d + 10) [.ref x, .int b] h x O (s_feed T b).1 (s_feed T b).2 := by
  have hX0 := hX
  obtain ⟨hT, δ, L, R, hC⟩ := hX
  have hC0 := hC
  obtain ⟨x1, x2, x3, x4, x5, x6, x7, x8, x9, x10, x11, x12, x13⟩ := hC
  obtain ⟨o1, o2, o3, o4, o5, o6⟩ := hT.1
  have g := x1.1
  have f0 := x1.2.1
  have f3 := x1.2.2.2.2.1
  have W1 := x3.1
  have Wc := x3.2.1
  have Wp := x3.2.2.1
  have C := x3.2.2.2.1
  have Pl := x3.2.2.2.2.1
  have hw := x3.2.2.2.2.2.1
  have hm := x3.2.2.2.2.2.2.1
  have n8 := C.2.2.2.2.1
  have ok := C.2.2.2.2.2.2
  have cn := C.2.2.2.1
  have l8 := Pl.2.2.2.2.2.1
  have sz := Pl.2.2.2.2.1
  have f5 := x1.2.2.2.2.2.2.1
  unfold s_feed
  cases hb : inB b 0 255 with
  | false =>
    rw [if_neg (by decide)]
    have hb := of_decide_eq_false hb
    refine cuR (k := 0) (by omega) hX0 (fun h1 r e => jm mi_X7_feed (Nat.le_of_ble_eq_true rfl) ⟨.int, rfl, rfl⟩ rfl (k_X7_feed_0 (fun _ => k_X7_feed_11 r (Or.inl e) g) (fun z => k_X7_feed_4 (fun z2 => ?_) (fun _ => k_X7_feed_11 r (Or.inl e) g))))
    rw [lt0I] at z
    rw [show (256 : Int32) = nI 256 from rfl, ltLit (by omega)] at z2
    omega
  | true =>
    rw [if_pos rfl]
    obtain ⟨b, hb1, rfl⟩ := inB_nI (n := 255) (by omega) hb
    rw [nn_I (by omega)]
    have hF := tX5_isFull (d := d + 9) x8
    have ent : ∀ {o : Option Value} {h' : PH}, RetT (some .int) o → J mX7_feed (d + 10) 19 [some (.ref x), some (.int (nI b))] [] h o h' → JMt mX7_feed (some .int) (d + 10) [.ref x, .int (nI b)] h o h' := fun rt kk =>
      jm mi_X7_feed (Nat.le_of_ble_eq_true rfl) rt rfl (k_X7_feed_0 (fun z => absurd z (nI_lt0 (by omega))) (fun _ => k_X7_feed_4 (fun _ => kk) (fun z => absurd (nI_lt (b := 256) (by omega) (by omega)) z)))
    by_cases hl : T.2.2.2.1.length < 250
    · rw [if_pos hl] at hF
      rw [if_pos hl]
      obtain ⟨h1, j1, j2, j3⟩ := t_append (d := d + 8) (b := b) x8 hl (by omega)
      have c1 := hC0.tap j2 j3
      obtain ⟨y1, y2, y3, y4, y5, y6, y7, y8, -⟩ := id c1
      refine ⟨h1, ent ⟨.int, rfl, rfl⟩ (k_X7_feed_19 g f5 hF (Or.inl rfl) x8.1 (fun _ => ?_) (fun z => absurd rfl z)), j2.mono (fun i y => by unfold pc2 at y; unfold inX; omega), hT, δ, L, R, c1⟩
      have := k_X7_feed_37 (d := d + 9) (a1 := nI b) g f5 j1 (Or.inl j2.1) x8.1 y1.1 y1.2.2.2.2.2.2.1 y8.1
      rw [y8.2.2.2.1, List.length_append] at this
      exact this
    · rw [if_neg hl] at hF
      rw [if_neg hl]
      exact cuR (k := 4) (by omega) hX0 (fun h1 r e => ent ⟨.int, rfl, rfl⟩ (k_X7_feed_19 g f5 hF (Or.inl rfl) x8.1 (fun z => absurd z (by decide)) (fun _ => k_X7_feed_29 r (Or.inl e) g)))
theorem c_wipe (hX : XS h x O T) : CU mX7_wipe (d + 10) [.ref x] h x O (s_wipe T).1 (s_wipe T).2 := by
  have hX0 := hX
  obtain ⟨hT, δ, L, R, hC⟩ := hX
  have hC0 := hC
  obtain ⟨x1, x2, x3, x4, x5, x6, x7, x8, x9, x10, x11, x12, x13⟩ := hC
  obtain ⟨o1, o2, o3, o4, o5, o6⟩ := hT.1
  have g := x1.1
  have f0 := x1.2.1
  have f3 := x1.2.2.2.2.1
  have W1 := x3.1
  have Wc := x3.2.1
  have Wp := x3.2.2.1
  have C := x3.2.2.2.1
  have Pl := x3.2.2.2.2.1
  have hw := x3.2.2.2.2.2.1
  have hm := x3.2.2.2.2.2.2.1
  have n8 := C.2.2.2.2.1
  have ok := C.2.2.2.2.2.2
  have cn := C.2.2.2.1
  have l8 := Pl.2.2.2.2.2.1
  have sz := Pl.2.2.2.2.1
  have f5 := x1.2.2.2.2.2.2.1
  obtain ⟨h1, j1, j2, j3⟩ := tX5_clear (d := d + 9) x8
  have := k_X7_wipe_0 g f5 x8.1 j1 (Or.inl j2.1)
  rw [x8.2.2.2.1] at this
  exact ⟨h1, jm mi_X7_wipe (Nat.le_of_ble_eq_true rfl) ⟨.int, rfl, rfl⟩ rfl this, j2.mono (fun i y => by unfold pc2 at y; unfold inX; omega), hT, δ, L, R, hC0.tap j2 j3⟩
theorem c_tower (hX : XS h x O T) : CU mX7_tower (d + 10) [.ref x] h x O (s_tower T).1 (s_tower T).2 := by
  have hX0 := hX
  obtain ⟨hT, δ, L, R, hC⟩ := hX
  have hC0 := hC
  obtain ⟨x1, x2, x3, x4, x5, x6, x7, x8, x9, x10, x11, x12, x13⟩ := hC
  obtain ⟨o1, o2, o3, o4, o5, o6⟩ := hT.1
  have g := x1.1
  have f0 := x1.2.1
  have f3 := x1.2.2.2.2.1
  have W1 := x3.1
  have Wc := x3.2.1
  have Wp := x3.2.2.1
  have C := x3.2.2.2.1
  have Pl := x3.2.2.2.2.1
  have hw := x3.2.2.2.2.2.1
  have hm := x3.2.2.2.2.2.2.1
  have n8 := C.2.2.2.2.1
  have ok := C.2.2.2.2.2.2
  have cn := C.2.2.2.1
  have l8 := Pl.2.2.2.2.2.1
  have sz := Pl.2.2.2.2.1
  have f2 := x1.2.2.2.1
  have f5 := x1.2.2.2.2.2.2.1
  have f6 := x1.2.2.2.2.2.2.2.1
  obtain ⟨h1, a1, a2, a3⟩ := t_worldTake (d := d + 7) x5 x3 (by omega)
  have c1 := hC0.dr2 a2 a3
  obtain ⟨y1, y2, y3, y4, y5, y6, y7, y8, y9, -⟩ := id c1
  obtain ⟨h2, b1, b2, b3, b4, b5⟩ := t_read (d := d + 3) (by omega) (by unfold inW; omega) (by unfold inW; omega) (by unfold inW; omega) (by unfold inW; omega) y9 y8 y5 hT.1
  have c2 := c1.dra b2 b4
  obtain ⟨z1, z2, z3, z4, z5, z6, z7, z8, z9, -⟩ := id c2
  obtain ⟨h3, e1, e2, e3⟩ := tX5_clear (d := d + 9) z8
  have c3 := c2.tap e2 e3
  obtain ⟨w1, w2, w3, w4, w5, -⟩ := id c3
  have U3 : Upd (inX x) h h3 := ((a2.mono (fun i y => by unfold inW at y; unfold inX; omega)).tr (b2.mono (fun i y => by unfold rdw inW at y; unfold inX; omega))).tr (e2.mono (fun i y => by unfold pc2 at y; unfold inX; omega))
  have rb := read_b (B := T.2.2.2.1) x8.2.2.2.2.1 250 1 (tokF T.2.2.2.1 0) T.1 rfl (tokF_ok (Nat.zero_le _)).1 hT.1
  have rl := len_read (B := T.2.2.2.1) 250 1 (tokF T.2.2.2.1 0) T.1
  have rb' : -2250 ≤ (readA T.2.2.2.1 T.1).1 ∧ (readA T.2.2.2.1 T.1).1 ≤ 250 := rb
  have ent : ∀ {o : Option Value} {h' : PH}, RetT (some .int) o → (0 ≤ sI (readA T.2.2.2.1 T.1).1 → J mX7_tower (d + 10) 44 [some (.ref x), some (.int (sI (readA T.2.2.2.1 T.1).1))] [] h3 o h') → (¬ 0 ≤ sI (readA T.2.2.2.1 T.1).1 → J mX7_tower (d + 10) 34 [some (.ref x), some (.int (sI (readA T.2.2.2.1 T.1).1))] [] h3 o h') → JMt mX7_tower (some .int) (d + 10) [.ref x] h o h' := fun rt k1 k2 =>
    jm mi_X7_tower (Nat.le_of_ble_eq_true rfl) rt rfl (k_X7_tower_0 g f2 f0 a1 (Or.inl a2.1) x5.1 y1.1 y1.2.2.2.2.2.2.2.1 y1.2.2.2.1 b1 (Or.inl b2.1) y9.1 z1.1 z1.2.2.2.2.2.2.1 e1 (Or.inl e2.1) z8.1 k1 k2)
  have s0 : (0 : Int32) ≤ sI (readA T.2.2.2.1 T.1).1 ↔ 0 ≤ (readA T.2.2.2.1 T.1).1 := by rw [show (0 : Int32) = sI 0 from rfl, sI_le (by omega) (by omega) (by omega) (by omega)]
  unfold s_tower
  by_cases hlt : (readA T.2.2.2.1 T.1).1 < 0
  · rw [if_pos hlt]
    obtain ⟨h4, r1, r2, r3⟩ := refuse_x (d := d + 8) (k := 0) (by omega) (show XS h3 x O (updB T []) from ⟨hT, _, L, R, c3⟩)
    exact ⟨h4, ent ⟨.int, rfl, rfl⟩ (fun z => absurd (s0.mp z) (by omega)) (fun _ => k_X7_tower_34 r1 (Or.inl r2.1) w1.1), U3.tr r2, r3⟩
  · rw [if_neg hlt]
    obtain ⟨h4, t1, t2, t3⟩ := t_worldTake (d := d + 7) w3 w5 (by omega)
    exact ⟨h4, ent ⟨.int, rfl, rfl⟩ (fun _ => k_X7_tower_44 w1.1 w1.2.1 w1.2.2.2.1 t1 (Or.inl t2.1) w3.1) (fun z => absurd (s0.mpr (by omega)) z), U3.tr (t2.mono (fun i y => inWX y)), okT_w (T := updB T []) hT b5 rl, _, L, R, c3.wor t2 t3⟩
theorem c_climb {p : Int32} (hX : XS h x O T) : CU mX7_climb (d + 10) [.ref x, .int p] h x O (s_climb T p).1 (s_climb T p).2 := by
  have hX0 := hX
  obtain ⟨hT, δ, L, R, hC⟩ := hX
  have hC0 := hC
  obtain ⟨x1, x2, x3, x4, x5, x6, x7, x8, x9, x10, x11, x12, x13⟩ := hC
  obtain ⟨o1, o2, o3, o4, o5, o6⟩ := hT.1
  have g := x1.1
  have f0 := x1.2.1
  have f3 := x1.2.2.2.2.1
  have W1 := x3.1
  have Wc := x3.2.1
  have Wp := x3.2.2.1
  have C := x3.2.2.2.1
  have Pl := x3.2.2.2.2.1
  have hw := x3.2.2.2.2.2.1
  have hm := x3.2.2.2.2.2.2.1
  have n8 := C.2.2.2.2.1
  have ok := C.2.2.2.2.2.2
  have cn := C.2.2.2.1
  have l8 := Pl.2.2.2.2.2.1
  have sz := Pl.2.2.2.2.1
  have hH := t_hasB (d := d + 9) (v := p) C
  unfold s_climb
  cases hp : hasB T.1.1.length p with
  | false =>
    rw [hp] at hH
    rw [if_neg (by decide)]
    exact cuR (k := 0) (by omega) hX0 (fun h1 r e => jm mi_X7_climb (Nat.le_of_ble_eq_true rfl) ⟨.int, rfl, rfl⟩ rfl (k_X7_climb_0 g f0 W1 Wc hH (Or.inl rfl) C.1 (fun z => absurd rfl z) (fun _ => k_X7_climb_14 r (Or.inl e) g)))
  | true =>
    rw [hp] at hH
    rw [if_pos rfl]
    obtain ⟨i, hi, rfl⟩ := hasB_nI hp
    rw [nn_I (by omega)]
    have hI' := t_isIn (d := d + 7) (x := i) Pl o1 n8 (by omega)
    have ent : ∀ {o : Option Value} {h' : PH}, RetT (some .int) o → (¬ bI (courseF T.1.2.1 i 0).isSome = 0 → J mX7_climb (d + 10) 56 [some (.ref x), some (.int (nI i))] [] h o h') → (bI (courseF T.1.2.1 i 0).isSome = 0 → J mX7_climb (d + 10) 36 [some (.ref x), some (.int (nI i))] [] h o h') → JMt mX7_climb (some .int) (d + 10) [.ref x, .int (nI i)] h o h' := fun rt k1 k2 =>
      jm mi_X7_climb (Nat.le_of_ble_eq_true rfl) rt rfl (k_X7_climb_0 g f0 W1 Wc hH (Or.inl rfl) C.1 (fun _ => k_X7_climb_22 g f0 W1 Wp hI' (Or.inl rfl) Pl.1 k1 k2) (fun z => absurd z (by decide)))
    cases hs : (courseF T.1.2.1 i 0).isSome with
    | true =>
      rw [Bool.true_or, if_pos rfl]
      exact cuR (k := 3) (by omega) hX0 (fun h1 r e => ent ⟨.int, rfl, rfl⟩ (fun _ => k_X7_climb_56 r (Or.inl e) g) (fun z => absurd z (by rw [hs]; decide)))
    | false =>
      rw [Bool.false_or]
      by_cases hl : T.1.2.2.2.1 ≤ T.1.2.1.length
      · rw [if_pos (decide_eq_true hl)]
        exact cuR (k := 3) (by omega) hX0 (fun h1 r e => ent ⟨.int, rfl, rfl⟩ (fun z => absurd (by rw [hs]; rfl) z) (fun _ => k_X7_climb_36 g f0 W1 Wp Pl.1 (fun z => absurd z (by rw [sz, hm]; exact nI_nlt hl (by omega))) (fun _ => k_X7_climb_56 r (Or.inl e) g)))
      · rw [if_neg (by rw [decide_eq_true_eq]; exact hl)]
        obtain ⟨h1, a1, a2, a3⟩ := t_push (d := d + 7) (x := i) Pl (by omega)
        have W2 := x3.pile a2 a3
        have a2' : Upd (inW (x + 1)) h h1 := a2.mono (fun i y => by unfold pc2 at y; unfold inW; omega)
        have ho2 := okW_ins hT.1 hi hs (by omega)
        obtain ⟨h2, b1, b2, b3⟩ := t_fellIfWeak (d := d + 5) W2 ho2
        have c1 := hC0.wor a2' W2
        refine cuW hT hC0 (okW_fall ho2) (by rw [fallW_P]; exact Nat.le_refl _) ⟨h2, ent ⟨.int, rfl, rfl⟩ (fun z => absurd (by rw [hs]; rfl) z) (fun _ => k_X7_climb_36 g f0 W1 Wp Pl.1 (fun _ => k_X7_climb_64 g f0 W1 Wp a1 (Or.inl a2.1) Pl.1 c1.1.1 c1.1.2.1 b1 (Or.inl b2.1) W2.1 (fun z => k_X7_climb_89 (k_X7_climb_90 ?_ (Or.inl rfl))) (fun z => k_X7_climb_85 (k_X7_climb_90 ?_ (Or.inl rfl)))) (fun z => absurd (by rw [sz, hm]; exact nI_lt (by omega) (by omega)) z)), a2'.tr b2, b3⟩
        · have e := bI_n0.mp z
          rw [Bool.not_eq_true'] at e
          have e' : firmB T.1.1 T.1.2.2.1 (insL T.1.2.1 T.1.2.1.length i) = false := e
          rw [e']
          exact t_oneIf (b := false)
        · have e := bI_0.mp z
          rw [Bool.not_eq_false'] at e
          have e' : firmB T.1.1 T.1.2.2.1 (insL T.1.2.1 T.1.2.1.length i) = true := e
          rw [e']
          exact t_oneIf (b := true)
theorem c_comesOut (hX : XS h x O T) : CU mX7_comesOut (d + 10) [.ref x] h x O (s_comesOut T).1 (s_comesOut T).2 := by
  have hX0 := hX
  obtain ⟨hT, δ, L, R, hC⟩ := hX
  have hC0 := hC
  obtain ⟨x1, x2, x3, x4, x5, x6, x7, x8, x9, x10, x11, x12, x13⟩ := hC
  obtain ⟨o1, o2, o3, o4, o5, o6⟩ := hT.1
  have g := x1.1
  have f0 := x1.2.1
  have f3 := x1.2.2.2.2.1
  have W1 := x3.1
  have Wc := x3.2.1
  have Wp := x3.2.2.1
  have C := x3.2.2.2.1
  have Pl := x3.2.2.2.2.1
  have hw := x3.2.2.2.2.2.1
  have hm := x3.2.2.2.2.2.2.1
  have n8 := C.2.2.2.2.1
  have ok := C.2.2.2.2.2.2
  have cn := C.2.2.2.1
  have l8 := Pl.2.2.2.2.2.1
  have sz := Pl.2.2.2.2.1
  unfold s_comesOut
  by_cases hl : T.1.2.1.length = 0
  · rw [if_pos hl]
    exact cuR (k := 3) (by omega) hX0 (fun h1 r e => jm mi_X7_comesOut (Nat.le_of_ble_eq_true rfl) ⟨.int, rfl, rfl⟩ rfl (k_X7_comesOut_0 g f0 W1 Wp Pl.1 (fun z => absurd (by rw [sz, hl]; rfl) z) (fun _ => k_X7_comesOut_13 r (Or.inl e) g)))
  · rw [if_neg hl]
    have h0 : 0 < T.1.2.1.length := by omega
    obtain ⟨h1, a1, a2, a3⟩ := t_removeAt (d := d + 8) (k := 0) Pl h0
    have W2 := x3.pile a2 a3
    have a2' : Upd (inW (x + 1)) h h1 := a2.mono (fun i y => by unfold pc2 at y; unfold inW; omega)
    have ho2 := okW_del hT.1 h0
    obtain ⟨h2, b1, b2, b3⟩ := t_fellIfWeak (d := d + 5) W2 ho2
    have c1 := hC0.wor a2' W2
    exact cuW hT hC0 (okW_fall ho2) (by rw [fallW_P]; exact Nat.le_refl _) ⟨h2, jm mi_X7_comesOut (Nat.le_of_ble_eq_true rfl) ⟨.int, rfl, rfl⟩ rfl (k_X7_comesOut_0 g f0 W1 Wp Pl.1 (fun _ => k_X7_comesOut_21 g f0 W1 Wp (t_onCourse (k := 0) Pl h0) (Or.inl rfl) Pl.1 g f0 W1 Wp a1 (Or.inl a2.1) Pl.1 c1.1.1 c1.1.2.1 b1 (Or.inl b2.1) W2.1) (fun z => absurd z (by rw [sz]; exact nI_ne0 h0 (by omega)))), a2'.tr b2, b3⟩
theorem l_days {n : Nat} (hn : n ≤ 60) : ∀ m j (h : PH) (σ : WS), n - j = m → j ≤ n → okW σ → XH h x → WorldS h (x + 1) σ →
    ∃ h1, (∀ o h', J mX7_days (d + 10) 56 [some (.ref x), some (.int (nI n)), some (.int (nI n))] [] h1 o h' → J mX7_days (d + 10) 38 [some (.ref x), some (.int (nI n)), some (.int (nI j))] [] h o h') ∧ Upd (inW (x + 1)) h h1 ∧ WorldS h1 (x + 1) (itF (fun _ s => turnW s) m j σ) ∧ okW (itF (fun _ s => turnW s) m j σ) := by
  intro m
  induction m with
  | zero =>
    intro j h σ hj hl ho hX hW
    have e : j = n := by omega
    subst e
    exact ⟨h, fun o h' kk => k_X7_days_38 (fun _ => kk) (fun z => absurd (Int32.le_refl _) z), Upd.rf, hW, ho⟩
  | succ m ih =>
    intro j h σ hj hl ho hX hW
    obtain ⟨h1, a1, a2, a3⟩ := t_turn (d := d + 4) hW ho
    obtain ⟨h2, i1, i2, i3, i4⟩ := ih (j + 1) h1 (turnW σ) (by omega) (by omega) (okW_turn ho) (hX.keep a2) a3
    exact ⟨h2, fun o h' kk => k_X7_days_38 (fun z => absurd z (nI_ge (by omega) (by omega))) (fun _ => k_X7_days_43 hX.1 hX.2.1 a1 (Or.inl a2.1) hW.1 (by rw [nI_1]; exact i1 o h' kk)), a2.tr i2, i3, i4⟩
theorem c_days {n : Int32} (hX : XS h x O T) : CU mX7_days (d + 10) [.ref x, .int n] h x O (s_days T n).1 (s_days T n).2 := by
  have hX0 := hX
  obtain ⟨hT, δ, L, R, hC⟩ := hX
  have hC0 := hC
  obtain ⟨x1, x2, x3, x4, x5, x6, x7, x8, x9, x10, x11, x12, x13⟩ := hC
  obtain ⟨o1, o2, o3, o4, o5, o6⟩ := hT.1
  have g := x1.1
  have f0 := x1.2.1
  have f3 := x1.2.2.2.2.1
  have W1 := x3.1
  have Wc := x3.2.1
  have Wp := x3.2.2.1
  have C := x3.2.2.2.1
  have Pl := x3.2.2.2.2.1
  have hw := x3.2.2.2.2.2.1
  have hm := x3.2.2.2.2.2.2.1
  have n8 := C.2.2.2.2.1
  have ok := C.2.2.2.2.2.2
  have cn := C.2.2.2.1
  have l8 := Pl.2.2.2.2.2.1
  have sz := Pl.2.2.2.2.1
  have hB := t_isTime (d := d + 9) (h := h) (s := n)
  unfold s_days
  cases hb : inB n 1 60 with
  | false =>
    rw [hb] at hB
    rw [if_neg (by decide)]
    exact cuR (k := 0) (by omega) hX0 (fun h1 r e => jm mi_X7_days (Nat.le_of_ble_eq_true rfl) ⟨.int, rfl, rfl⟩ rfl (k_X7_days_0 hB (Or.inl rfl) (fun z => absurd rfl z) (fun _ => k_X7_days_7 r (Or.inl e) g)))
  | true =>
    rw [hb] at hB
    rw [if_pos rfl]
    have hbb := of_decide_eq_true hb
    obtain ⟨n, hn, rfl⟩ := inr (x := n) (n := 61) (by rw [lt0I]; omega) (by omega)
    rw [nn_I (by omega)]
    by_cases hl : T.1.1.length = 0
    · rw [if_pos hl]
      exact cuR (k := 3) (by omega) hX0 (fun h1 r e => jm mi_X7_days (Nat.le_of_ble_eq_true rfl) ⟨.int, rfl, rfl⟩ rfl (k_X7_days_0 hB (Or.inl rfl) (fun _ => k_X7_days_15 g f0 W1 Wc C.1 (fun z => absurd (by rw [cn, hl]; rfl) z) (fun _ => k_X7_days_28 r (Or.inl e) g)) (fun z => absurd z (by decide))))
    · rw [if_neg hl]
      obtain ⟨h1, i1, i2, i3, i4⟩ := l_days (d := d) (n := n) (by omega) _ 0 h T.1 rfl (Nat.zero_le _) hT.1 x1 x3
      rw [Nat.sub_zero] at i3 i4
      have xk := x1.keep i2
      exact cuW hT hC0 i4 (by show _ ≤ (dayW T.1 n).1.length; rw [dayW_P]; exact Nat.le_refl _) ⟨h1, jm mi_X7_days (Nat.le_of_ble_eq_true rfl) ⟨.int, rfl, rfl⟩ rfl (k_X7_days_0 hB (Or.inl rfl) (fun _ => k_X7_days_15 g f0 W1 Wc C.1 (fun _ => k_X7_days_36 (i1 _ _ (k_X7_days_56 xk.1 xk.2.1 i3.1 i3.2.2.1 (t_tallnessOfAll i3.2.2.2.1 i3.2.2.2.2.1 i4.1) (Or.inl rfl) i3.2.2.2.2.1.1))) (fun z => absurd z (by rw [cn]; exact nI_ne0 (by omega) (by omega)))) (fun z => absurd z (by decide))), i2, i3⟩
theorem l_drawn {f : Int32 → Nat} {g : Int32 → Int32} {n : Nat} {v0 : Int32} (hn : n ≤ 60) (hf : ∀ s, f s < 10) (hd : ∀ (h : PH) (σ : WS), WorldS h (x + 1) σ → ∃ h', JMt mX6_draw (some .int) (d + 9) [.ref (x + 1), .int 10] h (some (.int (nI (f σ.2.2.2.2.2.2)))) h' ∧ Upd (inW (x + 1)) h h' ∧ WorldS h' (x + 1) (σ.1, σ.2.1, σ.2.2.1, σ.2.2.2.1, σ.2.2.2.2.1, σ.2.2.2.2.2.1, g σ.2.2.2.2.2.2)) : ∀ m j (h : PH) (σ : WS), n - j = m → j ≤ n → okW σ → XH h x → WorldS h (x + 1) σ →
    ∃ h1, (∀ o h', J mX7_drawn (d + 10) 88 [some (.ref x), some (.int (nI n)), some (.int v0), some (.int (nI n))] [] h1 o h' → J mX7_drawn (d + 10) 46 [some (.ref x), some (.int (nI n)), some (.int v0), some (.int (nI j))] [] h o h') ∧ Upd (inW (x + 1)) h h1 ∧ WorldS h1 (x + 1) (itF (fun _ s => turnW (fallW (drwG f g s))) m j σ) ∧ okW (itF (fun _ s => turnW (fallW (drwG f g s))) m j σ) := by
  intro m
  induction m with
  | zero =>
    intro j h σ hj hl ho hX hW
    have e : j = n := by omega
    subst e
    exact ⟨h, fun o h' kk => k_X7_drawn_46 (fun _ => kk) (fun z => absurd (Int32.le_refl _) z), Upd.rf, hW, ho⟩
  | succ m ih =>
    intro j h σ hj hl ho hX hW
    obtain ⟨h1, a1, a2, a3⟩ := hd h σ hW
    have X1 := hX.keep a2
    have W2 : WorldS (setI h1 (x + 1) 2 (nI (f σ.2.2.2.2.2.2))) (x + 1) (drwG f g σ) := a3.put rfl rfl rfl rfl rfl rfl rfl
    have U2 : Upd (inW (x + 1)) h1 (setI h1 (x + 1) 2 (nI (f σ.2.2.2.2.2.2))) := Upd.set ⟨by omega, by omega⟩
    have ho2 := okW_drw (g := g) hf ho
    obtain ⟨h3, b1, b2, b3⟩ := t_fellIfWeak (d := d + 5) W2 ho2
    have X3 := (X1.keep U2).keep b2
    have ho3 := okW_fall ho2
    obtain ⟨h4, t1, t2, t3⟩ := t_turn (d := d + 4) b3 ho3
    have X4 := X3.keep t2
    obtain ⟨h5, i1, i2, i3, i4⟩ := ih (j + 1) h4 (turnW (fallW (drwG f g σ))) (by omega) (by omega) (okW_turn ho3) X4 t3
    exact ⟨h5, fun o h' kk => k_X7_drawn_46 (fun z => absurd z (nI_ge (by omega) (by omega))) (fun _ => k_X7_drawn_51 hX.1 hX.2.1 a1 (Or.inl a2.1) hW.1 a3.1 X1.1 X1.2.1 b1 (Or.inl b2.1) a3.1 X3.1 X3.2.1 t1 (Or.inl t2.1) b3.1 (by rw [nI_1]; exact i1 o h' kk)), (((a2.tr U2).tr b2).tr t2).tr i2, i3, i4⟩
theorem c_drawn {n : Int32} (hX : XS h x O T) : CU mX7_drawn (d + 10) [.ref x, .int n] h x O (s_drawn T n).1 (s_drawn T n).2 := by
  have hX0 := hX
  obtain ⟨hT, δ, L, R, hC⟩ := hX
  have hC0 := hC
  obtain ⟨x1, x2, x3, x4, x5, x6, x7, x8, x9, x10, x11, x12, x13⟩ := hC
  obtain ⟨o1, o2, o3, o4, o5, o6⟩ := hT.1
  have g := x1.1
  have f0 := x1.2.1
  have f3 := x1.2.2.2.2.1
  have W1 := x3.1
  have Wc := x3.2.1
  have Wp := x3.2.2.1
  have C := x3.2.2.2.1
  have Pl := x3.2.2.2.2.1
  have hw := x3.2.2.2.2.2.1
  have hm := x3.2.2.2.2.2.2.1
  have n8 := C.2.2.2.2.1
  have ok := C.2.2.2.2.2.2
  have cn := C.2.2.2.1
  have l8 := Pl.2.2.2.2.2.1
  have sz := Pl.2.2.2.2.1
  have hB := t_isTime (d := d + 9) (h := h) (s := n)
  have hd : ∀ (h : PH) (σ : WS), WorldS h (x + 1) σ → ∃ h', JMt mX6_draw (some .int) (d + 9) [.ref (x + 1), .int 10] h (some (.int (nI (dN σ.2.2.2.2.2.2)))) h' ∧ Upd (inW (x + 1)) h h' ∧ WorldS h' (x + 1) (σ.1, σ.2.1, σ.2.2.1, σ.2.2.2.1, σ.2.2.2.2.1, σ.2.2.2.2.2.1, seedF σ.2.2.2.2.2.2) := fun h σ hW => by
    have := t_draw (d := d + 9) hW
    rw [(dN_lt σ.2.2.2.2.2.2).2] at this
    exact this
  unfold s_drawn
  cases hb : inB n 1 60 with
  | false =>
    rw [hb] at hB
    rw [if_neg (by decide)]
    exact cuR (k := 0) (by omega) hX0 (fun h1 r e => jm mi_X7_drawn (Nat.le_of_ble_eq_true rfl) ⟨.int, rfl, rfl⟩ rfl (k_X7_drawn_0 hB (Or.inl rfl) (fun z => absurd rfl z) (fun _ => k_X7_drawn_7 r (Or.inl e) g)))
  | true =>
    rw [hb] at hB
    rw [if_pos rfl]
    have hbb := of_decide_eq_true hb
    obtain ⟨n, hn, rfl⟩ := inr (x := n) (n := 61) (by rw [lt0I]; omega) (by omega)
    rw [nn_I (by omega)]
    by_cases hl : T.1.1.length = 0
    · rw [if_pos hl]
      exact cuR (k := 3) (by omega) hX0 (fun h1 r e => jm mi_X7_drawn (Nat.le_of_ble_eq_true rfl) ⟨.int, rfl, rfl⟩ rfl (k_X7_drawn_0 hB (Or.inl rfl) (fun _ => k_X7_drawn_15 g f0 W1 Wc C.1 (fun z => absurd (by rw [cn, hl]; rfl) z) (fun _ => k_X7_drawn_28 r (Or.inl e) g)) (fun z => absurd z (by decide))))
    · rw [if_neg hl]
      obtain ⟨h1, i1, i2, i3, i4⟩ := l_drawn (d := d) (f := dN) (g := seedF) (n := n) (v0 := T.1.2.2.2.2.2.1) (by omega) (fun s => (dN_lt s).1) hd _ 0 h T.1 rfl (Nat.zero_le _) hT.1 x1 x3
      rw [Nat.sub_zero] at i3 i4
      have xk := x1.keep i2
      have hf := x3.2.2.2.2.2.2.2.2.1
      have fin := k_X7_drawn_88 (d := d + 10) (a1 := nI n) (a2 := T.1.2.2.2.2.2.1) (a3 := nI n) xk.1 xk.2.1 i3.1
      rw [i3.2.2.2.2.2.2.2.2.1] at fin
      refine cuW hT hC0 i4 (by show _ ≤ (drnG dN seedF T.1 n).1.length; rw [drnG_P]; exact Nat.le_refl _) ⟨h1, jm mi_X7_drawn (Nat.le_of_ble_eq_true rfl) ⟨.int, rfl, rfl⟩ rfl (k_X7_drawn_0 hB (Or.inl rfl) (fun _ => k_X7_drawn_15 g f0 W1 Wc C.1 (fun _ => k_X7_drawn_36 g f0 W1 ?_) (fun z => absurd z (by rw [cn]; exact nI_ne0 (by omega) (by omega)))) (fun z => absurd z (by decide))), i2, i3⟩
      rw [hf]
      exact i1 _ _ fin
theorem c_seed {v : Int32} (hX : XS h x O T) : CU mX7_seed (d + 10) [.ref x, .int v] h x O (s_seed T v).1 (s_seed T v).2 := by
  have hX0 := hX
  obtain ⟨hT, δ, L, R, hC⟩ := hX
  have hC0 := hC
  obtain ⟨x1, x2, x3, x4, x5, x6, x7, x8, x9, x10, x11, x12, x13⟩ := hC
  obtain ⟨o1, o2, o3, o4, o5, o6⟩ := hT.1
  have g := x1.1
  have f0 := x1.2.1
  have f3 := x1.2.2.2.2.1
  have W1 := x3.1
  have Wc := x3.2.1
  have Wp := x3.2.2.1
  have C := x3.2.2.2.1
  have Pl := x3.2.2.2.2.1
  have hw := x3.2.2.2.2.2.1
  have hm := x3.2.2.2.2.2.2.1
  have n8 := C.2.2.2.2.1
  have ok := C.2.2.2.2.2.2
  have cn := C.2.2.2.1
  have l8 := Pl.2.2.2.2.2.1
  have sz := Pl.2.2.2.2.1
  have := k_X7_seed_0 (d := d + 10) (a1 := v) g f0 W1
  rw [x3.2.2.2.2.2.2.2.2.2] at this
  exact cuW hT hC0 ⟨o1, o2, o3, o4, o5, o6⟩ (Nat.le_refl _) ⟨_, jm mi_X7_seed (Nat.le_of_ble_eq_true rfl) ⟨.int, rfl, rfl⟩ rfl this, Upd.set ⟨by omega, by omega⟩, x3.put6⟩
theorem c_image (hX : XS h x O T) : CU mX7_image (d + 10) [.ref x] h x O (s_image T).1 (s_image T).2 := by
  have hX0 := hX
  obtain ⟨hT, δ, L, R, hC⟩ := hX
  have hC0 := hC
  obtain ⟨x1, x2, x3, x4, x5, x6, x7, x8, x9, x10, x11, x12, x13⟩ := hC
  obtain ⟨o1, o2, o3, o4, o5, o6⟩ := hT.1
  have g := x1.1
  have f0 := x1.2.1
  have f3 := x1.2.2.2.2.1
  have W1 := x3.1
  have Wc := x3.2.1
  have Wp := x3.2.2.1
  have C := x3.2.2.2.1
  have Pl := x3.2.2.2.2.1
  have hw := x3.2.2.2.2.2.1
  have hm := x3.2.2.2.2.2.2.1
  have n8 := C.2.2.2.2.1
  have ok := C.2.2.2.2.2.2
  have cn := C.2.2.2.1
  have l8 := Pl.2.2.2.2.2.1
  have sz := Pl.2.2.2.2.1
  obtain ⟨h1, a1, a2, a3⟩ := t_worldTake (d := d + 7) x4 x3 (by omega)
  have c1 := hC0.kep a2 a3
  obtain ⟨y1, y2, y3, y4, y5, y6, y7, y8, y9, y10, y11, y12, y13⟩ := id c1
  have U : Upd (fun i => i = x) h1 (setI h1 x 10 1) := Upd.set rfl
  refine ⟨_, jm mi_X7_image (Nat.le_of_ble_eq_true rfl) ⟨.int, rfl, rfl⟩ rfl (k_X7_image_0 g x1.2.2.1 f0 a1 (Or.inl a2.1) x4.1 y1.1), (a2.mono (fun i y => by unfold inW at y; unfold inX; omega)).st (by unfold inX; omega), ⟨hT.1, hT.1, hT.2.2⟩, δ, L, R, ?_⟩
  exact XC.upd (T := (T.1, (T.2.1.1, T.1), T.2.2)) c1 U (fun i y => by unfold inX; omega) (by rw [hI_setI, if_pos ⟨rfl, rfl⟩]; rfl) (y3.keep U (fun i y => by unfold inW at y; omega)) (y4.keep U (fun i y => by unfold inW at y; omega)) (y5.keep U (fun i y => by unfold inW at y; omega)) (y6.keep U (by omega) (by omega)) (y7.keep2 U (by omega) (by omega)) (y8.keep U (by omega) (by omega)) (U.2.2.2.2.2 _ (by omega)) (fun i hi => by rw [U.2.2.2.2.2 (x + 31) (by omega)]; exact y10 i hi)
end CS
