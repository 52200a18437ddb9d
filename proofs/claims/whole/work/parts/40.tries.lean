/-! questions of the class that try towers in thought -/
def itF {S : Type} (f : Nat → S → S) : Nat → Nat → S → S
  | 0, _, s => s
  | m + 1, j, s => itF f m (j + 1) (f j s)
theorem itF_cong {S : Type} {f g : Nat → S → S} : ∀ m j s, (∀ i s, j ≤ i → i < j + m → f i s = g i s) → itF f m j s = itF g m j s
  | 0, _, _, _ => rfl
  | m + 1, j, s, h => by
    rw [itF, itF, h j s (Nat.le_refl _) (by omega)]
    exact itF_cong m (j + 1) _ (fun i s h1 h2 => h i s (by omega) (by omega))
/-- an invariant of it -/
theorem itF_inv {S : Type} {f : Nat → S → S} {I : S → Prop} : ∀ m j s, I s → (∀ i s, j ≤ i → i < j + m → I s → I (f i s)) → I (itF f m j s)
  | 0, _, _, hs, _ => hs
  | m + 1, j, s, hs, h => itF_inv m (j + 1) _ (h j s (Nat.le_refl _) (by omega) hs) (fun i s h1 h2 => h i s (by omega) (by omega))
theorem nodup_len : ∀ (n : Nat) (L : List Nat), L.Nodup → (∀ x ∈ L, x < n) → L.length ≤ n
  | 0, L, _, h => by
    cases L with
    | nil => exact Nat.le_refl _
    | cons a l => exact absurd (h a List.mem_cons_self) (Nat.not_lt_zero a)
  | n + 1, L, hd, h => by
    by_cases hm : n ∈ L
    · have h1 := List.length_erase_of_mem hm
      have h2 := nodup_len n (L.erase n) (hd.erase n) (fun x hx => by
        have h3 := h x (List.mem_of_mem_erase hx)
        have h4 : x ≠ n := fun e => by
          subst e
          exact (List.Nodup.not_mem_erase hd) hx
        omega)
      have h5 : 0 < L.length := List.length_pos_of_mem hm
      omega
    · have := nodup_len n L hd (fun x hx => by
        have h3 := h x hx
        have h4 : x ≠ n := fun e => hm (by rw [← e]; exact hx)
        omega)
      omega
theorem not_in_len {n p : Nat} {L : List Nat} (hd : L.Nodup) (h : ∀ x ∈ L, x < n) (hp : p < n) (hn : (courseF L p 0).isSome = false) : L.length < n := by
  have h1 : p ∉ L := fun hm => by rw [isSome_mem.mpr hm] at hn; cases hn
  have := nodup_len n (p :: L) (List.nodup_cons.mpr ⟨h1, hd⟩) (fun x hx => by
    rcases List.mem_cons.mp hx with e | e
    · rw [e]; exact hp
    · exact h x e)
  rw [List.length_cons] at this
  omega
def galeZ (P : List Pers) (L : List Nat) : Int := match galeF P L with
  | none => -1
  | some k => (k : Int)
theorem galeZ_I (P : List Pers) (L : List Nat) : oI (galeF P L) = sI (galeZ P L) := by
  unfold galeZ
  cases galeF P L with
  | none => decide
  | some k => exact nI_sI k
theorem galeZ_b (P : List Pers) (L : List Nat) : -1 ≤ galeZ P L ∧ galeZ P L ≤ 9 := by
  unfold galeZ
  cases h : galeF P L with
  | none => exact ⟨Int.le_refl _, by decide⟩
  | some k => have := galeF_lt h; exact ⟨by show (-1 : Int) ≤ (k : Int); omega, by show (k : Int) ≤ 9; omega⟩
def q_out (σ : WS) : QR := .inr (nI (maskL (fun k => firmB σ.1 σ.2.2.1 (delL σ.2.1 k)) σ.2.1))
def couldN (σ : WS) : Nat := if σ.2.1.length < σ.2.2.2.1 then mkN (fun p => !(courseF σ.2.1 p 0).isSome && firmB σ.1 σ.2.2.1 (insL σ.2.1 σ.2.1.length p)) σ.1.length else 0
def q_who (σ : WS) (w : Int32) : QR := if inB w 0 3 then .inr (nI (if nn w = 0 then maskL (fun _ => true) σ.2.1 else if nn w = 1 then couldN σ else if nn w = 2 then maskL (crushB σ.1 σ.2.1) σ.2.1 else maskL (shakeB σ.1 σ.2.2.1 σ.2.1) σ.2.1)) else .inl 0
def fitS (σ : WS) (p : Nat) (s : Int × Int) : Int × Int := if (courseF σ.2.1 p 0).isSome then s else if s.2 < galeZ σ.1 (insL σ.2.1 σ.2.1.length p) then ((p : Int), galeZ σ.1 (insL σ.2.1 σ.2.1.length p)) else s
def q_fittest (σ : WS) : QR := .inr (sI (itF (fitS σ) σ.1.length 0 (-1, -1)).1)
def ligS (σ : WS) (k : Nat) (s : Int × Int) : Int × Int := if s.2 < galeZ σ.1 (delL σ.2.1 k) then ((σ.2.1.getD k 0 : Int), galeZ σ.1 (delL σ.2.1 k)) else s
def q_lighter (σ : WS) : QR := .inr (sI (itF (ligS σ) σ.2.1.length 0 (-1, -1)).1)
def lslZ (P : List Pers) (L : List Nat) : Int := slackZ P L (leastK P L)
def undS (σ : WS) (p : Nat) (s : Int × Int) : Int × Int := if (courseF σ.2.1 p 0).isSome then s else if s.1 = -1 ∨ s.2 < lslZ σ.1 (insL σ.2.1 0 p) then ((p : Int), lslZ σ.1 (insL σ.2.1 0 p)) else s
def q_under (σ : WS) : QR := .inr (sI (if σ.2.1.length < σ.2.2.2.1 then (itF (undS σ) σ.1.length 0 (-1, 0)).1 else -1))
def crsN (L : List Nat) (p : Nat) : Nat := (courseF L p 0).getD 0
def chgS (σ : WS) (p q : Nat) (s : Int × Int) : Int × Int := if (courseF σ.2.1 p 0).isSome && (courseF σ.2.1 q 0).isSome then (if s.1 = -1 ∨ s.2 < lslZ σ.1 (swapL σ.2.1 (crsN σ.2.1 p) (crsN σ.2.1 q)) then ((10 * p + q : Nat), lslZ σ.1 (swapL σ.2.1 (crsN σ.2.1 p) (crsN σ.2.1 q))) else s) else s
def chgR (σ : WS) (p : Nat) (s : Int × Int) : Int × Int := itF (chgS σ p) (σ.1.length - (p + 1)) (p + 1) s
def q_change (σ : WS) : QR := .inr (sI (itF (chgR σ) σ.1.length 0 (-1, 0)).1)
def q_shifted (σ : WS) (a b : Int32) : QR := if (0 ≤ a.toInt ∧ a.toInt < σ.2.1.length) ∧ (0 ≤ b.toInt ∧ b.toInt < σ.2.1.length) then .inr (bI (firmB σ.1 σ.2.2.1 (insL (delL σ.2.1 (nn a)) (nn b) (σ.2.1.getD (nn a) 0)))) else .inl 0
def footL (L : List Nat) (p : Nat) : List Nat := insL (match courseF L p 0 with
  | none => L
  | some k => delL L k) 0 p
def q_foot (σ : WS) (p : Int32) : QR := if hasB σ.1.length p then .inr (bI (decide (maskL (crushB σ.1 (footL σ.2.1 (nn p))) (footL σ.2.1 (nn p)) = 0))) else .inl 0
def ahS (σ : WS) (_ : Nat) (s : List Nat × Nat) : List Nat × Nat := if firmB σ.1 σ.2.2.1 (turnL σ.2.2.2.1 σ.1.length s.1) then (turnL σ.2.2.2.1 σ.1.length s.1, s.2) else ([], s.2 + 1)
def q_ahead (σ : WS) (n w : Int32) : QR := if inB n 0 60 && inB w 0 3 then .inr (if nn w = 0 then nI (tallL σ.1 (itF (ahS σ) (nn n) 0 (σ.2.1, 0)).1) else if nn w = 1 then nI (itF (ahS σ) (nn n) 0 (σ.2.1, 0)).1.length else if nn w = 2 then nI (itF (ahS σ) (nn n) 0 (σ.2.1, 0)).2 else headI (itF (ahS σ) (nn n) 0 (σ.2.1, 0)).1) else .inl 0
theorem slackZ_lsl {P : List Pers} {L : List Nat} (hP : ∀ q ∈ P, okP q) (hL : L.length ≤ 8) : -400 ≤ lslZ P L ∧ lslZ P L ≤ 216 := slackZ_b hP hL _
section QT
variable {d : Nat} {h : PH} {x : Nat} {O : Nat → Prop} {T : TS} {δ : WS} {R : Nat → Nat × Nat}
theorem cqT {M : JM} {as : List Value} {v : Int32} {D : Nat} (hT : okT T) (hj : ∃ h1 L1, JMt M (some .int) D as h (some (.int v)) h1 ∧ Upd (pc2 (x + 16) (x + 17)) h h1 ∧ XC h1 x O T δ L1 R) : CQ M D as h x O T (.inr v) := by
  obtain ⟨h1, L1, a, b, c⟩ := hj
  exact ⟨h1, a, b.mono (fun i y => pcX y), hT, δ, L1, R, c⟩
theorem c_next (hX : XS h x O T) : CQ mX7_next (d + 10) [.ref x] h x O T (q_next T.1) := by
  have hX0 := hX
  obtain ⟨hT, δ, L, R, hC⟩ := hX
  have hC0 := hC
  obtain ⟨x1, x2, x3, x4, x5, x6, x7, x8, x9, x10, x11, x12, x13⟩ := hC
  obtain ⟨o1, o2, o3, o4, o5, o6⟩ := hT.1
  have g := x1.1
  have f0 := x1.2.1
  have f3 := x1.2.2.2.2.1
  have W1 := x3.1
  have Wc := x3.2.1
  have Wp := x3.2.2.1
  have C := x3.2.2.2.1
  have Pl := x3.2.2.2.2.1
  have hw := x3.2.2.2.2.2.1
  have hm := x3.2.2.2.2.2.2.1
  have n8 := C.2.2.2.2.1
  have ok := C.2.2.2.2.2.2
  have cn := C.2.2.2.1
  have l8 := Pl.2.2.2.2.2.1
  have sz := Pl.2.2.2.2.1
  obtain ⟨h1, a1, a2, a3⟩ := t_trial (d := d + 8) hC0
  have a30 := a3
  obtain ⟨y1, y2, y3, y4, y5, y6, -⟩ := a3
  obtain ⟨h2, b1, b2, b3⟩ := t_makeRoom (d := d + 7) y3.2.2.2.1 y6 o5.2
  have c := a30.pile b2 b3
  have c0 := c
  obtain ⟨z1, z2, z3, z4, z5, z6, -⟩ := c
  refine cqT hT ⟨h2, _, jm mi_X7_next (Nat.le_of_ble_eq_true rfl) ⟨.int, rfl, rfl⟩ rfl (k_X7_next_0 g f3 f0 W1 Wp a1 (Or.inl a2.1) x6.1 y1.1 y1.2.2.2.2.1 y1.2.1 y3.1 (by rw [y3.2.2.2.2.2.2.1]; exact b1) (Or.inl b2.1) y6.1 z1.1 z1.2.2.2.2.1 (t_behind z3.2.2.2.1 z6 (roomL_in o1)) (Or.inl rfl) z6.1), a2.tr b2, c0⟩
theorem l_out (hT : okT T) : ∀ m j (h : PH) (L : List Nat), T.1.2.1.length - j = m → j ≤ T.1.2.1.length → XC h x O T δ L R →
    ∃ h1 L1, J mX7_out (d + 10) 4 [some (.ref x), some (.int (nI (orN (fun k => if firmB T.1.1 T.1.2.2.1 (delL T.1.2.1 k) then 2 ^ T.1.2.1.getD k 0 else 0) j))), some (.int (nI j))] [] h (some (.int (nI (maskL (fun k => firmB T.1.1 T.1.2.2.1 (delL T.1.2.1 k)) T.1.2.1)))) h1 ∧ Upd (pc2 (x + 16) (x + 17)) h h1 ∧ XC h1 x O T δ L1 R := by
  intro m
  induction m with
  | zero =>
    intro j h L hj hl hC
    have e : j = T.1.2.1.length := by omega
    subst e
    obtain ⟨x1, x2, x3, -⟩ := id hC
    exact ⟨h, L, k_X7_out_4 x1.1 x1.2.1 x3.1 x3.2.2.1 x3.2.2.2.2.1.1 (fun _ => k_X7_out_63) (fun z => absurd (by rw [x3.2.2.2.2.1.2.2.2.2.1]; exact nI_le (by omega) (by have := x3.2.2.2.2.1.2.2.2.2.2.1; omega)) z), Upd.rf, hC⟩
  | succ m ih =>
    intro j h L hj hl hC
    obtain ⟨o1, o2, o3, o4, o5, o6⟩ := hT.1
    obtain ⟨x1, x2, x3, -⟩ := id hC
    have l8 := x3.2.2.2.2.1.2.2.2.2.2.1
    have n8 := x3.2.2.2.1.2.2.2.2.1
    have hjl : j < T.1.2.1.length := by omega
    obtain ⟨h1, a1, a2, a3⟩ := t_tryWithout (d := d + 7) hC hjl
    obtain ⟨y1, y2, y3, y4, y5, y6, -⟩ := id a3
    have hF := t_isFirm (d := d + 6) y3.2.2.2.1 y6 (delL_in o1) o4
    obtain ⟨h2, L2, i1, i2, i3⟩ := ih (j + 1) h1 _ (by omega) (by omega) a3
    rw [orN] at i1
    have hxj := o1 _ (getD_mem hjl)
    refine ⟨h2, L2, k_X7_out_4 x1.1 x1.2.1 x3.1 x3.2.2.1 x3.2.2.2.2.1.1 (fun z => absurd z (by rw [x3.2.2.2.2.1.2.2.2.2.1]; exact nI_ge hjl (by omega))) (fun _ => k_X7_out_18 a1 (Or.inl a2.1) x1.1 y1.1 y1.2.2.2.2.1 y1.2.1 y3.1 (by rw [y3.2.2.2.2.2.1]; exact hF) (Or.inl rfl) y6.1 (fun z => k_X7_out_57 ?_) (fun z => k_X7_out_40 y1.1 y1.2.1 y3.1 y3.2.2.1 (t_onCourse y3.2.2.2.2.1 hjl) (Or.inl rfl) y3.2.2.2.2.1.1 (t_bit (by omega)) (Or.inl rfl) (k_X7_out_57 ?_))), a2.tr i2, i3⟩
    · rw [bI_0.mp z, if_neg (by decide), Nat.or_zero] at i1
      rw [nI_1]; exact i1
    · rw [bI_n0.mp z, if_pos rfl] at i1
      rw [fa_or, nI_1]; exact i1
theorem c_out (hX : XS h x O T) : CQ mX7_out (d + 10) [.ref x] h x O T (q_out T.1) := by
  obtain ⟨hT, δ, L, R, hC⟩ := hX
  obtain ⟨h1, L1, a, b, c⟩ := l_out (d := d) hT _ 0 h L rfl (Nat.zero_le _) hC
  exact cqT hT ⟨h1, L1, jm mi_X7_out (Nat.le_of_ble_eq_true rfl) ⟨.int, rfl, rfl⟩ rfl (k_X7_out_0 a), b, c⟩
theorem l_could (hT : okT T) (hlt : T.1.2.1.length < T.1.2.2.2.1) : ∀ m j (h : PH) (L : List Nat), T.1.1.length - j = m → j ≤ T.1.1.length → XC h x O T δ L R →
    ∃ h1 L1, J mX7_couldClimb (d + 9) 26 [some (.ref x), some (.int (nI (mkN (fun p => !(courseF T.1.2.1 p 0).isSome && firmB T.1.1 T.1.2.2.1 (insL T.1.2.1 T.1.2.1.length p)) j))), some (.int (nI j))] [] h (some (.int (nI (mkN (fun p => !(courseF T.1.2.1 p 0).isSome && firmB T.1.1 T.1.2.2.1 (insL T.1.2.1 T.1.2.1.length p)) T.1.1.length)))) h1 ∧ Upd (pc2 (x + 16) (x + 17)) h h1 ∧ XC h1 x O T δ L1 R := by
  intro m
  induction m with
  | zero =>
    intro j h L hj hl hC
    have e : j = T.1.1.length := by omega
    subst e
    obtain ⟨x1, x2, x3, -⟩ := id hC
    exact ⟨h, L, k_X7_couldClimb_26 x1.1 x1.2.1 x3.1 x3.2.1 x3.2.2.2.1.1 (fun _ => k_X7_couldClimb_89) (fun z => absurd (by rw [x3.2.2.2.1.2.2.2.1]; exact nI_le (by omega) (by have := x3.2.2.2.1.2.2.2.2.1; omega)) z), Upd.rf, hC⟩
  | succ m ih =>
    intro j h L hj hl hC
    obtain ⟨o1, o2, o3, o4, o5, o6⟩ := hT.1
    obtain ⟨x1, x2, x3, -⟩ := id hC
    have n8 := x3.2.2.2.1.2.2.2.2.1
    have hjl : j < T.1.1.length := by omega
    have hI' := t_isIn (d := d + 6) (x := j) x3.2.2.2.2.1 o1 n8 (by omega)
    have ent : ∀ {o : Option Value} {h' : PH} {v : Int32}, (¬ bI (courseF T.1.2.1 j 0).isSome = 0 → J mX7_couldClimb (d + 9) 83 [some (.ref x), some (.int v), some (.int (nI j))] [] h o h') → (bI (courseF T.1.2.1 j 0).isSome = 0 → J mX7_couldClimb (d + 9) 54 [some (.ref x), some (.int v), some (.int (nI j))] [] h o h') → J mX7_couldClimb (d + 9) 26 [some (.ref x), some (.int v), some (.int (nI j))] [] h o h' := fun k1 k2 =>
      k_X7_couldClimb_26 x1.1 x1.2.1 x3.1 x3.2.1 x3.2.2.2.1.1 (fun z => absurd z (by rw [x3.2.2.2.1.2.2.2.1]; exact nI_ge hjl (by omega))) (fun _ => k_X7_couldClimb_40 x1.1 x1.2.1 x3.1 x3.2.2.1 hI' (Or.inl rfl) x3.2.2.2.2.1.1 k1 k2)
    cases hs : (courseF T.1.2.1 j 0).isSome with
    | true =>
      obtain ⟨h2, L2, i1, i2, i3⟩ := ih (j + 1) h L (by omega) (by omega) hC
      rw [mkN_succ, hs, Bool.not_true, Bool.false_and, if_neg (by decide)] at i1
      refine ⟨h2, L2, ent (fun _ => k_X7_couldClimb_83 ?_) (fun z => absurd z (by rw [hs]; decide)), i2, i3⟩
      rw [nI_1]; exact i1
    | false =>
      obtain ⟨h1, a1, a2, a3⟩ := t_tryOnTop (d := d + 5) (p := j) hC (by omega)
      obtain ⟨y1, y2, y3, y4, y5, y6, -⟩ := id a3
      have hF := t_isFirm (d := d + 5) y3.2.2.2.1 y6 (insL_in o1 hjl) o4
      obtain ⟨h2, L2, i1, i2, i3⟩ := ih (j + 1) h1 _ (by omega) (by omega) a3
      rw [mkN_succ, hs, Bool.not_false, Bool.true_and] at i1
      refine ⟨h2, L2, ent (fun z => absurd (by rw [hs]; rfl) z) (fun _ => k_X7_couldClimb_54 a1 (Or.inl a2.1) x1.1 y1.1 y1.2.2.2.2.1 y1.2.1 y3.1 (by rw [y3.2.2.2.2.2.1]; exact hF) (Or.inl rfl) y6.1 (fun z => k_X7_couldClimb_83 ?_) (fun z => k_X7_couldClimb_76 (t_bit (by omega)) (Or.inl rfl) (k_X7_couldClimb_83 ?_))), a2.tr i2, i3⟩
      · rw [bI_0.mp z, if_neg (by decide)] at i1
        rw [nI_1]; exact i1
      · rw [bI_n0.mp z, if_pos rfl] at i1
        rw [fa_or, nI_1]; exact i1
theorem c_who {w : Int32} (hX : XS h x O T) : CQ mX7_who (d + 10) [.ref x, .int w] h x O T (q_who T.1 w) := by
  have hX0 := hX
  obtain ⟨hT, δ, L, R, hC⟩ := hX
  have hC0 := hC
  obtain ⟨x1, x2, x3, x4, x5, x6, x7, x8, x9, x10, x11, x12, x13⟩ := hC
  obtain ⟨o1, o2, o3, o4, o5, o6⟩ := hT.1
  have g := x1.1
  have f0 := x1.2.1
  have f3 := x1.2.2.2.2.1
  have W1 := x3.1
  have Wc := x3.2.1
  have Wp := x3.2.2.1
  have C := x3.2.2.2.1
  have Pl := x3.2.2.2.2.1
  have hw := x3.2.2.2.2.2.1
  have hm := x3.2.2.2.2.2.2.1
  have n8 := C.2.2.2.2.1
  have ok := C.2.2.2.2.2.2
  have cn := C.2.2.2.1
  have l8 := Pl.2.2.2.2.2.1
  have sz := Pl.2.2.2.2.1
  unfold q_who
  cases hb : inB w 0 3 with
  | false =>
    rw [if_neg (by decide)]
    have hb := of_decide_eq_false hb
    have nw : ∀ k : Nat, k ≤ 3 → w = nI k → False := fun k hk e => by rw [e, nI_toInt (by omega)] at hb; omega
    exact cqR (k := 0) (by omega) hX0 (fun h1 r e => jm mi_X7_who (Nat.le_of_ble_eq_true rfl) ⟨.int, rfl, rfl⟩ rfl (k_X7_who_0 (fun _ => k_X7_who_77 r (Or.inl e) g) (fun z => (nw 0 (by omega) z).elim) (fun z => (nw 1 (by omega) z).elim) (fun z => (nw 2 (by omega) z).elim) (fun z => (nw 3 (by omega) z).elim)))
  | true =>
    rw [if_pos rfl]
    obtain ⟨w, hw3, rfl⟩ := inB_nI (n := 3) (by omega) hb
    rw [nn_I (by omega)]
    have ww : (nI w).toInt = w := nI_toInt (by omega)
    have : w = 0 ∨ w = 1 ∨ w = 2 ∨ w = 3 := by omega
    rcases this with rfl | rfl | rfl | rfl
    · exact cq0 hX0 (jm mi_X7_who (Nat.le_of_ble_eq_true rfl) ⟨.int, rfl, rfl⟩ rfl (k_X7_who_0 (fun z => absurd z (by omega)) (fun _ => k_X7_who_32 g f0 W1 Wp (t_bits Pl o1 n8) (Or.inl rfl) Pl.1) (fun z => absurd z (by decide)) (fun z => absurd z (by decide)) (fun z => absurd z (by decide))))
    · rw [if_neg (by decide), if_pos rfl]
      have ent : ∀ {v : Int32} {h1 : PH}, JMt mX7_couldClimb (some .int) (d + 9) [.ref x] h (some (.int v)) h1 → hn h1 = hn h → JMt mX7_who (some .int) (d + 10) [.ref x, .int (nI 1)] h (some (.int v)) h1 := fun kk e => jm mi_X7_who (Nat.le_of_ble_eq_true rfl) ⟨.int, rfl, rfl⟩ rfl (k_X7_who_0 (fun z => absurd z (by omega)) (fun z => absurd z (by decide)) (fun _ => k_X7_who_43 kk (Or.inl e) g) (fun z => absurd z (by decide)) (fun z => absurd z (by decide)))
      unfold couldN
      by_cases hlt : T.1.2.1.length < T.1.2.2.2.1
      · rw [if_pos hlt]
        obtain ⟨h1, L1, a, b, c⟩ := l_could (d := d) hT hlt _ 0 h L rfl (Nat.zero_le _) hC0
        exact cqT hT ⟨h1, L1, ent (jm mi_X7_couldClimb (Nat.le_of_ble_eq_true rfl) ⟨.int, rfl, rfl⟩ rfl (k_X7_couldClimb_0 g f0 W1 Wp Pl.1 (fun _ => k_X7_couldClimb_24 a) (fun z => absurd (by rw [sz, hm]; exact nI_lt hlt (by omega)) z))) b.1, b, c⟩
      · rw [if_neg hlt]
        exact cq0 hX0 (ent (jm mi_X7_couldClimb (Nat.le_of_ble_eq_true rfl) ⟨.int, rfl, rfl⟩ rfl (k_X7_couldClimb_0 g f0 W1 Wp Pl.1 (fun z => absurd z (by rw [sz, hm]; exact nI_nlt (by omega) (by omega))) (fun _ => k_X7_couldClimb_22))) rfl)
    · exact cq0 hX0 (jm mi_X7_who (Nat.le_of_ble_eq_true rfl) ⟨.int, rfl, rfl⟩ rfl (k_X7_who_0 (fun z => absurd z (by omega)) (fun z => absurd z (by decide)) (fun z => absurd z (by decide)) (fun _ => k_X7_who_48 g f0 W1 Wp (t_crushedBits C Pl o1) (Or.inl rfl) Pl.1) (fun z => absurd z (by decide))))
    · exact cq0 hX0 (jm mi_X7_who (Nat.le_of_ble_eq_true rfl) ⟨.int, rfl, rfl⟩ rfl (k_X7_who_0 (fun z => absurd z (by omega)) (fun z => absurd z (by decide)) (fun z => absurd z (by decide)) (fun z => absurd z (by decide)) (fun _ => k_X7_who_59 g f0 W1 Wp (by rw [hw]; exact t_shakenBits C Pl o1 o4) (Or.inl rfl) Pl.1)))
theorem l_fittest (hT : okT T) : ∀ m j (h : PH) (L : List Nat) (s : Int × Int), T.1.1.length - j = m → j ≤ T.1.1.length → (-1 ≤ s.2 ∧ s.2 ≤ 9) → XC h x O T δ L R →
    ∃ h1 L1, J mX7_fittest (d + 10) 6 [some (.ref x), some (.int (sI s.1)), some (.int (sI s.2)), some (.int (nI j)), none] [] h (some (.int (sI (itF (fitS T.1) m j s).1))) h1 ∧ Upd (pc2 (x + 16) (x + 17)) h h1 ∧ XC h1 x O T δ L1 R := by
  intro m
  induction m with
  | zero =>
    intro j h L s hj hl hs hC
    obtain ⟨x1, x2, x3, -⟩ := id hC
    exact ⟨h, L, k_X7_fittest_6 x1.1 x1.2.1 x3.1 x3.2.1 x3.2.2.2.1.1 (fun _ => k_X7_fittest_65) (fun z => absurd (by rw [x3.2.2.2.1.2.2.2.1]; exact nI_le (by omega) (by have := x3.2.2.2.1.2.2.2.2.1; omega)) z), Upd.rf, hC⟩
  | succ m ih =>
    intro j h L s hj hl hs hC
    obtain ⟨o1, o2, o3, o4, o5, o6⟩ := hT.1
    obtain ⟨x1, x2, x3, -⟩ := id hC
    have n8 := x3.2.2.2.1.2.2.2.2.1
    have hjl : j < T.1.1.length := by omega
    have hI' := t_isIn (d := d + 7) (x := j) x3.2.2.2.2.1 o1 n8 (by omega)
    have ent : ∀ {o : Option Value} {h' : PH} {v1 v2 : Int32}, (¬ bI (courseF T.1.2.1 j 0).isSome = 0 → J mX7_fittest (d + 10) 59 [some (.ref x), some (.int v1), some (.int v2), some (.int (nI j)), none] [] h o h') → (bI (courseF T.1.2.1 j 0).isSome = 0 → J mX7_fittest (d + 10) 34 [some (.ref x), some (.int v1), some (.int v2), some (.int (nI j)), none] [] h o h') → J mX7_fittest (d + 10) 6 [some (.ref x), some (.int v1), some (.int v2), some (.int (nI j)), none] [] h o h' := fun k1 k2 =>
      k_X7_fittest_6 x1.1 x1.2.1 x3.1 x3.2.1 x3.2.2.2.1.1 (fun z => absurd z (by rw [x3.2.2.2.1.2.2.2.1]; exact nI_ge hjl (by omega))) (fun _ => k_X7_fittest_20 x1.1 x1.2.1 x3.1 x3.2.2.1 hI' (Or.inl rfl) x3.2.2.2.2.1.1 k1 k2)
    rw [itF]
    unfold fitS
    cases hs' : (courseF T.1.2.1 j 0).isSome with
    | true =>
      rw [if_pos rfl]
      obtain ⟨h2, L2, i1, i2, i3⟩ := ih (j + 1) h L s (by omega) (by omega) hs hC
      refine ⟨h2, L2, ent (fun _ => k_X7_fittest_59 ?_) (fun z => absurd z (by rw [hs']; decide)), i2, i3⟩
      rw [nI_1]; exact i1
    | false =>
      rw [if_neg (by decide)]
      have hln := not_in_len o2 o1 hjl hs'
      obtain ⟨h1, a1, a2, a3⟩ := t_tryOnTop (d := d + 6) (p := j) hC (by omega)
      obtain ⟨y1, y2, y3, y4, y5, y6, -⟩ := id a3
      have hG := t_greatestWind (d := d + 5) y3.2.2.2.1 y6 (insL_in o1 hjl)
      have gb := galeZ_b T.1.1 (insL T.1.2.1 T.1.2.1.length j)
      rw [galeZ_I] at hG
      have ent2 : ∀ {o : Option Value} {h' : PH}, (sI (galeZ T.1.1 (insL T.1.2.1 T.1.2.1.length j)) ≤ sI s.2 → J mX7_fittest (d + 10) 59 [some (.ref x), some (.int (sI s.1)), some (.int (sI s.2)), some (.int (nI j)), none] [] h1 o h') → (¬ sI (galeZ T.1.1 (insL T.1.2.1 T.1.2.1.length j)) ≤ sI s.2 → J mX7_fittest (d + 10) 54 [some (.ref x), some (.int (sI s.1)), some (.int (sI s.2)), some (.int (nI j)), some (.int (sI (galeZ T.1.1 (insL T.1.2.1 T.1.2.1.length j))))] [] h1 o h') → J mX7_fittest (d + 10) 6 [some (.ref x), some (.int (sI s.1)), some (.int (sI s.2)), some (.int (nI j)), none] [] h o h' := fun k1 k2 =>
        ent (fun z => absurd (by rw [hs']; rfl) z) (fun _ => k_X7_fittest_34 a1 (Or.inl a2.1) x1.1 y1.1 y1.2.2.2.2.1 hG (Or.inl rfl) y6.1 k1 k2)
      by_cases hlt : s.2 < galeZ T.1.1 (insL T.1.2.1 T.1.2.1.length j)
      · rw [if_pos hlt]
        obtain ⟨h2, L2, i1, i2, i3⟩ := ih (j + 1) h1 _ _ (by omega) (by omega) (show -1 ≤ ((j : Int), galeZ T.1.1 (insL T.1.2.1 T.1.2.1.length j)).2 ∧ ((j : Int), galeZ T.1.1 (insL T.1.2.1 T.1.2.1.length j)).2 ≤ 9 from gb) a3
        refine ⟨h2, L2, ent2 (fun z => absurd ((sI_le (by omega) (by omega) (by omega) (by omega)).mp z) (by omega)) (fun _ => k_X7_fittest_54 (k_X7_fittest_59 ?_)), a2.tr i2, i3⟩
        rw [nI_1, nI_sI j]
        exact i1
      · rw [if_neg hlt]
        obtain ⟨h2, L2, i1, i2, i3⟩ := ih (j + 1) h1 _ _ (by omega) (by omega) hs a3
        refine ⟨h2, L2, ent2 (fun _ => k_X7_fittest_59 (by rw [nI_1]; exact i1)) (fun z => absurd ((sI_le (by omega) (by omega) (by omega) (by omega)).mpr (by omega)) z), a2.tr i2, i3⟩
theorem c_fittest (hX : XS h x O T) : CQ mX7_fittest (d + 10) [.ref x] h x O T (q_fittest T.1) := by
  obtain ⟨hT, δ, L, R, hC⟩ := hX
  obtain ⟨h1, L1, a, b, c⟩ := l_fittest (d := d) hT _ 0 h L (-1, -1) rfl (Nat.zero_le _) ⟨by decide, by decide⟩ hC
  exact cqT hT ⟨h1, L1, jm mi_X7_fittest (Nat.le_of_ble_eq_true rfl) ⟨.int, rfl, rfl⟩ rfl (k_X7_fittest_0 a), b, c⟩
theorem l_lighter (hT : okT T) : ∀ m j (h : PH) (L : List Nat) (s : Int × Int), T.1.2.1.length - j = m → j ≤ T.1.2.1.length → (-1 ≤ s.2 ∧ s.2 ≤ 9) → XC h x O T δ L R →
    ∃ h1 L1, J mX7_lighter (d + 10) 6 [some (.ref x), some (.int (sI s.1)), some (.int (sI s.2)), some (.int (nI j)), none] [] h (some (.int (sI (itF (ligS T.1) m j s).1))) h1 ∧ Upd (pc2 (x + 16) (x + 17)) h h1 ∧ XC h1 x O T δ L1 R := by
  intro m
  induction m with
  | zero =>
    intro j h L s hj hl hs hC
    obtain ⟨x1, x2, x3, -⟩ := id hC
    exact ⟨h, L, k_X7_lighter_6 x1.1 x1.2.1 x3.1 x3.2.2.1 x3.2.2.2.2.1.1 (fun _ => k_X7_lighter_61) (fun z => absurd (by rw [x3.2.2.2.2.1.2.2.2.2.1]; exact nI_le (by omega) (by have := x3.2.2.2.2.1.2.2.2.2.2.1; omega)) z), Upd.rf, hC⟩
  | succ m ih =>
    intro j h L s hj hl hs hC
    obtain ⟨o1, o2, o3, o4, o5, o6⟩ := hT.1
    obtain ⟨x1, x2, x3, -⟩ := id hC
    have l8 := x3.2.2.2.2.1.2.2.2.2.2.1
    have hjl : j < T.1.2.1.length := by omega
    obtain ⟨h1, a1, a2, a3⟩ := t_tryWithout (d := d + 7) hC hjl
    obtain ⟨y1, y2, y3, y4, y5, y6, -⟩ := id a3
    have hG := t_greatestWind (d := d + 5) y3.2.2.2.1 y6 (delL_in (k := j) o1)
    have gb := galeZ_b T.1.1 (delL T.1.2.1 j)
    rw [galeZ_I] at hG
    have ent2 : ∀ {o : Option Value} {h' : PH}, (sI (galeZ T.1.1 (delL T.1.2.1 j)) ≤ sI s.2 → J mX7_lighter (d + 10) 55 [some (.ref x), some (.int (sI s.1)), some (.int (sI s.2)), some (.int (nI j)), some (.int (sI (galeZ T.1.1 (delL T.1.2.1 j))))] [] h1 o h') → (¬ sI (galeZ T.1.1 (delL T.1.2.1 j)) ≤ sI s.2 → J mX7_lighter (d + 10) 40 [some (.ref x), some (.int (sI s.1)), some (.int (sI s.2)), some (.int (nI j)), some (.int (sI (galeZ T.1.1 (delL T.1.2.1 j))))] [] h1 o h') → J mX7_lighter (d + 10) 6 [some (.ref x), some (.int (sI s.1)), some (.int (sI s.2)), some (.int (nI j)), none] [] h o h' := fun k1 k2 =>
      k_X7_lighter_6 x1.1 x1.2.1 x3.1 x3.2.2.1 x3.2.2.2.2.1.1 (fun z => absurd z (by rw [x3.2.2.2.2.1.2.2.2.2.1]; exact nI_ge hjl (by omega))) (fun _ => k_X7_lighter_20 a1 (Or.inl a2.1) x1.1 y1.1 y1.2.2.2.2.1 hG (Or.inl rfl) y6.1 k1 k2)
    rw [itF]
    unfold ligS
    by_cases hlt : s.2 < galeZ T.1.1 (delL T.1.2.1 j)
    · rw [if_pos hlt]
      obtain ⟨h2, L2, i1, i2, i3⟩ := ih (j + 1) h1 _ ((T.1.2.1.getD j 0 : Int), galeZ T.1.1 (delL T.1.2.1 j)) (by omega) (by omega) gb a3
      refine ⟨h2, L2, ent2 (fun z => absurd ((sI_le (by omega) (by omega) (by omega) (by omega)).mp z) (by omega)) (fun _ => k_X7_lighter_40 y1.1 y1.2.1 y3.1 y3.2.2.1 (t_onCourse y3.2.2.2.2.1 hjl) (Or.inl rfl) y3.2.2.2.2.1.1 (k_X7_lighter_55 ?_)), a2.tr i2, i3⟩
      rw [nI_1, nI_sI (T.1.2.1.getD j 0)]
      exact i1
    · rw [if_neg hlt]
      obtain ⟨h2, L2, i1, i2, i3⟩ := ih (j + 1) h1 _ _ (by omega) (by omega) hs a3
      refine ⟨h2, L2, ent2 (fun _ => k_X7_lighter_55 (by rw [nI_1]; exact i1)) (fun z => absurd ((sI_le (by omega) (by omega) (by omega) (by omega)).mpr (by omega)) z), a2.tr i2, i3⟩
theorem c_lighter (hX : XS h x O T) : CQ mX7_lighter (d + 10) [.ref x] h x O T (q_lighter T.1) := by
  obtain ⟨hT, δ, L, R, hC⟩ := hX
  obtain ⟨h1, L1, a, b, c⟩ := l_lighter (d := d) hT _ 0 h L (-1, -1) rfl (Nat.zero_le _) ⟨by decide, by decide⟩ hC
  exact cqT hT ⟨h1, L1, jm mi_X7_lighter (Nat.le_of_ble_eq_true rfl) ⟨.int, rfl, rfl⟩ rfl (k_X7_lighter_0 a), b, c⟩
theorem sI_neg1 {z : Int} (h1 : -1 ≤ z) (h2 : z < 2147483648) : sI z = -1 ↔ z = -1 := by rw [neg1_sI, sI_eq (by omega) (by omega) (by omega) (by omega)]
theorem l_under (hT : okT T) : ∀ m j (h : PH) (L : List Nat) (s : Int × Int), T.1.1.length - j = m → j ≤ T.1.1.length → (-1 ≤ s.1 ∧ s.1 ≤ 100) → (-400 ≤ s.2 ∧ s.2 ≤ 216) → XC h x O T δ L R →
    ∃ h1 L1, J mX7_under (d + 10) 31 [some (.ref x), some (.ref (x + 1 + 3)), some (.int (sI s.1)), some (.int (sI s.2)), some (.int (nI j)), none] [] h (some (.int (sI (itF (undS T.1) m j s).1))) h1 ∧ Upd (pc2 (x + 16) (x + 17)) h h1 ∧ XC h1 x O T δ L1 R := by
  intro m
  induction m with
  | zero =>
    intro j h L s hj hl hs1 hs hC
    obtain ⟨x1, x2, x3, -⟩ := id hC
    exact ⟨h, L, k_X7_under_31 x1.1 x1.2.1 x3.1 x3.2.1 x3.2.2.2.1.1 (fun _ => k_X7_under_105) (fun z => absurd (by rw [x3.2.2.2.1.2.2.2.1]; exact nI_le (by omega) (by have := x3.2.2.2.1.2.2.2.2.1; omega)) z), Upd.rf, hC⟩
  | succ m ih =>
    intro j h L s hj hl hs1 hs hC
    obtain ⟨o1, o2, o3, o4, o5, o6⟩ := hT.1
    obtain ⟨x1, x2, x3, x4, x5, x6, -⟩ := id hC
    have n8 := x3.2.2.2.1.2.2.2.2.1
    have ok := x3.2.2.2.1.2.2.2.2.2.2
    have hjl : j < T.1.1.length := by omega
    have hI' := t_isIn (d := d + 7) (x := j) x3.2.2.2.2.1 o1 n8 (by omega)
    have ent : ∀ {o : Option Value} {h' : PH} {v1 v2 : Int32}, (¬ bI (courseF T.1.2.1 j 0).isSome = 0 → J mX7_under (d + 10) 99 [some (.ref x), some (.ref (x + 1 + 3)), some (.int v1), some (.int v2), some (.int (nI j)), none] [] h o h') → (bI (courseF T.1.2.1 j 0).isSome = 0 → J mX7_under (d + 10) 55 [some (.ref x), some (.ref (x + 1 + 3)), some (.int v1), some (.int v2), some (.int (nI j)), none] [] h o h') → J mX7_under (d + 10) 31 [some (.ref x), some (.ref (x + 1 + 3)), some (.int v1), some (.int v2), some (.int (nI j)), none] [] h o h' := fun k1 k2 =>
      k_X7_under_31 x1.1 x1.2.1 x3.1 x3.2.1 x3.2.2.2.1.1 (fun z => absurd z (by rw [x3.2.2.2.1.2.2.2.1]; exact nI_ge hjl (by omega))) (fun _ => k_X7_under_46 hI' (Or.inl rfl) x3.2.2.2.2.1.1 k1 k2)
    rw [itF]
    unfold undS
    cases hs' : (courseF T.1.2.1 j 0).isSome with
    | true =>
      rw [if_pos rfl]
      obtain ⟨h2, L2, i1, i2, i3⟩ := ih (j + 1) h L s (by omega) (by omega) hs1 hs hC
      refine ⟨h2, L2, ent (fun _ => k_X7_under_99 ?_) (fun z => absurd z (by rw [hs']; decide)), i2, i3⟩
      rw [nI_1]; exact i1
    | false =>
      rw [if_neg (by decide)]
      have hln := not_in_len o2 o1 hjl hs'
      obtain ⟨h1, a1, a2, a3⟩ := t_trial (d := d + 8) hC
      obtain ⟨y1, y2, y3, y4, y5, y6, -⟩ := id a3
      obtain ⟨h2, b1, b2, b3⟩ := t_insert (d := d + 8) (k := 0) (x := j) y6 (Nat.zero_le _) (by omega)
      have c3 := a3.pile b2 b3
      obtain ⟨z1, z2, z3, z4, z5, z6, -⟩ := id c3
      have hlen : (insL T.1.2.1 0 j).length = T.1.2.1.length + 1 := insL_len (Nat.zero_le _)
      have hS := t_leastSlack (d := d + 5) z3.2.2.2.1 z6 (insL_in o1 hjl) (by omega)
      have sb := slackZ_lsl (P := T.1.1) (L := insL T.1.2.1 0 j) ok (by omega)
      have ent2 : ∀ {o : Option Value} {h' : PH}, (sI s.1 = -1 → J mX7_under (d + 10) 93 [some (.ref x), some (.ref (x + 1 + 3)), some (.int (sI s.1)), some (.int (sI s.2)), some (.int (nI j)), some (.int (sI (lslZ T.1.1 (insL T.1.2.1 0 j))))] [] h2 o h') → (¬ sI s.1 = -1 → J mX7_under (d + 10) 87 [some (.ref x), some (.ref (x + 1 + 3)), some (.int (sI s.1)), some (.int (sI s.2)), some (.int (nI j)), some (.int (sI (lslZ T.1.1 (insL T.1.2.1 0 j))))] [] h2 o h') → J mX7_under (d + 10) 31 [some (.ref x), some (.ref (x + 1 + 3)), some (.int (sI s.1)), some (.int (sI s.2)), some (.int (nI j)), none] [] h o h' := fun k1 k2 =>
        ent (fun z => absurd (by rw [hs']; rfl) z) (fun _ => k_X7_under_55 x1.1 x1.2.2.2.2.1 a1 (Or.inl a2.1) x6.1 y1.1 y1.2.2.2.2.1 b1 (Or.inl b2.1) y6.1 z1.1 z1.2.2.2.2.1 hS (Or.inl rfl) z6.1 k1 k2)
      have n1 := sI_neg1 (z := s.1) (by omega) (by omega)
      by_cases hlt : s.1 = -1 ∨ s.2 < lslZ T.1.1 (insL T.1.2.1 0 j)
      · rw [if_pos hlt]
        obtain ⟨h3, L2, i1, i2, i3⟩ := ih (j + 1) h2 _ ((j : Int), lslZ T.1.1 (insL T.1.2.1 0 j)) (by omega) (by omega) ⟨by show (-1 : Int) ≤ (j : Int); omega, by show (j : Int) ≤ 100; omega⟩ sb c3
        have fin : J mX7_under (d + 10) 93 [some (.ref x), some (.ref (x + 1 + 3)), some (.int (sI s.1)), some (.int (sI s.2)), some (.int (nI j)), some (.int (sI (lslZ T.1.1 (insL T.1.2.1 0 j))))] [] h2 (some (.int (sI (itF (undS T.1) m (j + 1) ((j : Int), lslZ T.1.1 (insL T.1.2.1 0 j))).1))) h3 := by
          refine k_X7_under_93 (k_X7_under_99 ?_)
          rw [nI_1, nI_sI j]
          exact i1
        refine ⟨h3, L2, ent2 (fun _ => fin) (fun z => k_X7_under_87 (fun z2 => absurd ((sI_le (by omega) (by omega) (by omega) (by omega)).mp z2) ?_) (fun _ => fin)), (a2.tr b2).tr i2, i3⟩
        rw [n1] at z
        have := hlt.resolve_left z
        omega
      · rw [if_neg hlt]
        obtain ⟨h3, L2, i1, i2, i3⟩ := ih (j + 1) h2 _ _ (by omega) (by omega) hs1 hs c3
        refine ⟨h3, L2, ent2 (fun z => absurd (Or.inl (n1.mp z)) hlt) (fun _ => k_X7_under_87 (fun _ => k_X7_under_99 (by rw [nI_1]; exact i1)) (fun z => absurd ((sI_le (by omega) (by omega) (by omega) (by omega)).mpr ?_) z)), (a2.tr b2).tr i2, i3⟩
        rcases Int.lt_or_le s.2 (lslZ T.1.1 (insL T.1.2.1 0 j)) with w | w
        · exact absurd (Or.inr w) hlt
        · exact w
theorem c_under (hX : XS h x O T) : CQ mX7_under (d + 10) [.ref x] h x O T (q_under T.1) := by
  have hX0 := hX
  obtain ⟨hT, δ, L, R, hC⟩ := hX
  have hC0 := hC
  obtain ⟨x1, x2, x3, x4, x5, x6, x7, x8, x9, x10, x11, x12, x13⟩ := hC
  obtain ⟨o1, o2, o3, o4, o5, o6⟩ := hT.1
  have g := x1.1
  have f0 := x1.2.1
  have f3 := x1.2.2.2.2.1
  have W1 := x3.1
  have Wc := x3.2.1
  have Wp := x3.2.2.1
  have C := x3.2.2.2.1
  have Pl := x3.2.2.2.2.1
  have hw := x3.2.2.2.2.2.1
  have hm := x3.2.2.2.2.2.2.1
  have n8 := C.2.2.2.2.1
  have ok := C.2.2.2.2.2.2
  have cn := C.2.2.2.1
  have l8 := Pl.2.2.2.2.2.1
  have sz := Pl.2.2.2.2.1
  unfold q_under
  by_cases hlt : T.1.2.1.length < T.1.2.2.2.1
  · rw [if_pos hlt]
    obtain ⟨h1, L1, a, b, c⟩ := l_under (d := d) hT _ 0 h L (-1, 0) rfl (Nat.zero_le _) ⟨by decide, by decide⟩ ⟨by decide, by decide⟩ hC0
    exact cqT hT ⟨h1, L1, jm mi_X7_under (Nat.le_of_ble_eq_true rfl) ⟨.int, rfl, rfl⟩ rfl (k_X7_under_0 g f0 W1 Wp Pl.1 (fun _ => k_X7_under_28 a) (fun z => absurd (by rw [sz, hm]; exact nI_lt hlt (by omega)) z)), b, c⟩
  · rw [if_neg hlt]
    exact cq0 hX0 (jm mi_X7_under (Nat.le_of_ble_eq_true rfl) ⟨.int, rfl, rfl⟩ rfl (k_X7_under_0 g f0 W1 Wp Pl.1 (fun z => absurd z (by rw [sz, hm]; exact nI_nlt (by omega) (by omega))) (fun _ => k_X7_under_26)))
end QT
