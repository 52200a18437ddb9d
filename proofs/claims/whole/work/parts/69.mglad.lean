/-! the reference: the greatest gladness of all orders -/
def GJ (n S : Nat) (ok : Nat → Nat → Bool) (fd : Nat → Nat → Nat) (fo : Nat → Nat) (b p : Nat) : Int := if ok b p then (if glads n S ok fd (b ||| 2 ^ p) p = -1 then -1 else glads n S ok fd (b ||| 2 ^ p) p + (fo p : Int)) else -1
/-- the table of gladness, from those below b on -/
def JoyR (h : PH) (m S : Nat) (P : List Pers) (ok : Nat → Nat → Bool) (b : Nat) : Prop := ∀ x l, b ≤ x → x ≤ S → subS x S → l < P.length → x.testBit l = true → hI h (m + 27 + x) l = sI (glads P.length S ok (fondP P) x l)
theorem k27 {m : Nat} : ∀ i k, fV m i k → ¬ (m + 27 ≤ i ∧ i ≤ m + 282) := fun i k q => by unfold fV at q; omega
theorem f27 {m i k : Nat} (q : m + 27 ≤ i ∧ i ≤ m + 282) : fVS m i k := Or.inr (by unfold fS; omega)
theorem GJ_b {n S b p : Nat} {ok : Nat → Nat → Bool} {fd : Nat → Nat → Nat} {fo : Nat → Nat} (hfd : ∀ a b, fd a b ≤ 10) (hfo : fo p ≤ 10) : -1 ≤ GJ n S ok fd fo b p ∧ GJ n S ok fd fo b p ≤ 100 := by
  have := glads_b (n := n) (S := S) (ok := ok) hfd (b ||| 2 ^ p) p
  unfold GJ
  split
  · split <;> omega
  · omega
section JG
variable {d : Nat} {h : PH} {m : Nat} {σ : WS}
theorem v_gladFrom {S b : Nat} {la : Int32} {fo : Nat → Nat} {ok : Nat → Nat → Bool} (eok : ok = okS σ.1 σ.2.2.1 S) (hS : S < 2 ^ σ.1.length) (hsub : subS b S) (hk : stepsOK σ.1.length S ok) (hM : ModH h m) (hB : MB h m σ) (hj : JoyR h m S σ.1 ok (b + 1)) (hfo : (la = -1 ∧ ∀ p, fo p = 0) ∨ ∃ l, l < σ.1.length ∧ la = nI l ∧ fo = fondP σ.1 l) : ∀ n j, σ.1.length - j = n → j ≤ σ.1.length → J mX8_gladFrom (d + 3) 15 [some (.ref m), some (.int (nI S)), some (.int (nI b)), some (.int la), some (.int (sI (maxZ (GJ σ.1.length S ok (fondP σ.1) fo b) (if b = S then 0 else -1) j))), some (.int (nI j)), none, none] [] h (some (.int (sI (maxZ (GJ σ.1.length S ok (fondP σ.1) fo b) (if b = S then 0 else -1) σ.1.length)))) h := by
  have n8 := hB.n8
  have h256 := pow_le8 n8
  have hbS := subS_le hsub
  have hf10 : ∀ p, fo p ≤ 10 := fun p => hfo.elim (fun z => by rw [z.2 p]; omega) (fun ⟨l, _, _, z⟩ => by rw [z]; exact fondP_le σ.1 l p)
  intro n
  induction n with
  | zero =>
    intro j hn hl
    have : j = σ.1.length := by omega
    subst this
    exact k_X8_gladFrom_15 hM.g (fun _ => k_X8_gladFrom_122) (fun q => absurd (by rw [hB.n]; exact nI_le (by omega) (by omega)) q)
  | succ n ih =>
    intro j hn hl
    have hjl : j < σ.1.length := by omega
    have nx := ih (j + 1) (by omega) (by omega)
    have hdb := dif_bit (S := S) (b := b) (i := j) (by omega)
    have sb := shr1_iff (s := difN S b) (p := j) (dif_lt (by omega)) (by omega)
    rw [hdb] at sb
    have gb := GJ_b (n := σ.1.length) (S := S) (b := b) (p := j) (ok := ok) (fondP_le σ.1) (hf10 j)
    rw [maxZ] at nx
    generalize hMd : maxZ (GJ σ.1.length S ok (fondP σ.1) fo b) (if b = S then 0 else -1) j = Mj at nx ⊢
    have hMge : -1 ≤ Mj := by
      rw [← hMd]
      refine Int.le_trans ?_ (maxZ_ge j)
      split <;> omega
    have hMle : Mj ≤ 100 := by
      rw [← hMd]
      exact maxZ_le j (by split <;> omega) (fun p _ => (GJ_b (fondP_le σ.1) (hf10 p)).2)
    generalize hGd : GJ σ.1.length S ok (fondP σ.1) fo b j = G at nx gb
    have fin : ∀ a6 : Int32, J mX8_gladFrom (d + 3) 98 [some (.ref m), some (.int (nI S)), some (.int (nI b)), some (.int la), some (.int (sI Mj)), some (.int (nI j)), some (.int a6), none] [.int (sI G)] h (some (.int (sI (maxZ (GJ σ.1.length S ok (fondP σ.1) fo b) (if b = S then 0 else -1) σ.1.length)))) h := fun a6 => by
      refine k_X8_gladFrom_98 (fun q => k_X8_gladFrom_112 (k_X8_gladFrom_114 ?_)) (fun q => k_X8_gladFrom_107 (k_X8_gladFrom_114 ?_))
      · rw [sI_le (by omega) (by omega) (by omega) (by omega)] at q
        rw [if_neg (by omega)] at nx
        rw [nI_1]; exact nx
      · rw [sI_le (by omega) (by omega) (by omega) (by omega)] at q
        rw [if_pos (by omega)] at nx
        rw [nI_1]; exact nx
    have none' : G = -1 → J mX8_gladFrom (d + 3) 66 [some (.ref m), some (.int (nI S)), some (.int (nI b)), some (.int la), some (.int (sI Mj)), some (.int (nI j)), none, none] [] h (some (.int (sI (maxZ (GJ σ.1.length S ok (fondP σ.1) fo b) (if b = S then 0 else -1) σ.1.length)))) h := fun e => by
      refine k_X8_gladFrom_66 (k_X8_gladFrom_67 (fun z => absurd rfl z) (fun _ => k_X8_gladFrom_75 ?_))
      have := fin (-1)
      rw [e, ← neg1_sI] at this
      exact this
    have ge : G = if ok b j then (if glads σ.1.length S ok (fondP σ.1) (b ||| 2 ^ j) j = -1 then -1 else glads σ.1.length S ok (fondP σ.1) (b ||| 2 ^ j) j + (fo j : Int)) else -1 := by rw [← hGd]; rfl
    refine k_X8_gladFrom_15 hM.g (fun q => absurd q (by rw [hB.n]; exact nI_ge hjl (by omega))) (fun _ => k_X8_gladFrom_24 (fun q => ?_) (fun q => ?_))
    · rw [dif_I (by omega) (by omega), sb] at q
      refine none' ?_
      have : ok b j = false := by
        cases ho : ok b j with
        | false => rfl
        | true => exact absurd (by rw [(hk.2.2 b j ho).1, (hk.2.2 b j ho).2]; rfl) q
      rw [ge, this, if_neg (by decide)]
    · rw [dif_I (by omega) (by omega), sb] at q
      obtain ⟨t1, t2⟩ := Bool.and_eq_true_iff.mp q
      have t2 : b.testBit j = false := by simpa using t2
      have hh := u_holds (d := d) (S := S) (b := b) (p := j) (by omega) (by omega) hjl t1 t2 hM hB
      rw [← eok] at hh
      refine k_X8_gladFrom_38 hh (Or.inl rfl) hM.g (fun z => ?_) (fun z => ?_)
      · have z := bI_0.mp z
        refine none' ?_
        rw [ge, z, if_neg (by decide)]
      · have z := bI_n0.mp z
        rw [z, if_pos rfl] at ge
        have hor := or_lt8 (b := b) (p := j) (by omega) (by omega)
        have hsu := subS_or hsub t1
        have hlt := lt_or t2
        have cell : hI h (m + 27 + (b ||| 2 ^ j)) (nI j).toNatClampNeg = sI (glads σ.1.length S ok (fondP σ.1) (b ||| 2 ^ j) j) := by
          rw [nI_clamp (by omega)]
          exact hj _ j (by omega) (subS_le hsu) hsu hjl (by rw [Nat.testBit_or, Nat.testBit_two_pow_self, Bool.or_true])
        have gg := glads_b (n := σ.1.length) (S := S) (ok := ok) (fondP_le σ.1) (b ||| 2 ^ j) j
        refine k_X8_gladFrom_49 hM.g hM.r33 hM.g33 (by decide) (by rw [or_I (by omega)]; exact (vp_in_nI (by omega) (by omega))) (by rw [or_I (by omega), nI_clamp (by omega)]; exact hM.rj hor) (hM.gj hor) (vp_in_nI (by omega) (by omega)) ?_
        rw [cell]
        by_cases gn : glads σ.1.length S ok (fondP σ.1) (b ||| 2 ^ j) j = -1
        · rw [if_pos gn] at ge
          rw [gn]
          refine k_X8_gladFrom_67 (fun z => absurd (by decide) z) (fun _ => k_X8_gladFrom_75 ?_)
          have := fin (-1)
          rw [ge, ← neg1_sI] at this
          rw [← neg1_sI]
          exact this
        · rw [if_neg gn] at ge
          refine k_X8_gladFrom_67 (fun _ => ?_) (fun z => absurd ((sI_neg1 (by omega) (by omega)).mp z) gn)
          rcases hfo with ⟨z1, z2⟩ | ⟨l, z1, z2, z3⟩
          · refine k_X8_gladFrom_79 (fun z => absurd z1 z) (fun _ => k_X8_gladFrom_86 (k_X8_gladFrom_97 ?_))
            have := fin (sI (glads σ.1.length S ok (fondP σ.1) (b ||| 2 ^ j) j))
            rw [ge, z2 j] at this
            rw [show (0 : Int32) = sI ((0 : Nat) : Int) from rfl, sI_add]
            exact this
          · refine k_X8_gladFrom_79 (fun _ => k_X8_gladFrom_90 (by rw [z2]; exact u_fondOf hM hB z1 hjl) (Or.inl rfl) hM.g (k_X8_gladFrom_97 ?_)) (fun z => absurd (by rw [← z2]; exact z) (nI_nneg1 (n := l) (by omega)))
            have := fin (sI (glads σ.1.length S ok (fondP σ.1) (b ||| 2 ^ j) j))
            rw [ge, congrFun z3 j] at this
            rw [show nI (fondP σ.1 l j) = sI ((fondP σ.1 l j : Nat) : Int) from nI_sI _, sI_add]
            exact this
theorem u_gladFrom {S b : Nat} {la : Int32} {fo : Nat → Nat} {ok : Nat → Nat → Bool} (eok : ok = okS σ.1 σ.2.2.1 S) (hS : S < 2 ^ σ.1.length) (hsub : subS b S) (hk : stepsOK σ.1.length S ok) (hM : ModH h m) (hB : MB h m σ) (hj : JoyR h m S σ.1 ok (b + 1)) (hfo : (la = -1 ∧ ∀ p, fo p = 0) ∨ ∃ l, l < σ.1.length ∧ la = nI l ∧ fo = fondP σ.1 l) : JMt mX8_gladFrom (some .int) (d + 3) [.ref m, .int (nI S), .int (nI b), .int la] h (some (.int (sI (maxZ (GJ σ.1.length S ok (fondP σ.1) fo b) (if b = S then 0 else -1) σ.1.length)))) h := by
  have h256 := pow_le8 hB.n8
  have hbS := subS_le hsub
  have := v_gladFrom (d := d) eok hS hsub hk hM hB hj hfo _ 0 rfl (Nat.zero_le _)
  refine jm mi_X8_gladFrom (Nat.le_of_ble_eq_true rfl) ⟨.int, rfl, rfl⟩ rfl (k_X8_gladFrom_0 (fun z => k_X8_gladFrom_9 (k_X8_gladFrom_10 ?_)) (fun z => k_X8_gladFrom_5 (k_X8_gladFrom_10 ?_)))
  · rw [nI_eq (by omega) (by omega)] at z
    rw [maxZ, if_neg z, ← neg1_sI] at this
    rw [if_neg z]
    exact this
  · rw [nI_eq (by omega) (by omega)] at z
    rw [maxZ, if_pos z] at this
    rw [if_pos z]
    exact this
theorem v_gladLast {S b : Nat} {ok : Nat → Nat → Bool} (eok : ok = okS σ.1 σ.2.2.1 S) (hS : S < 2 ^ σ.1.length) (hsub : subS b S) (hk : stepsOK σ.1.length S ok) : ∀ n j (h : PH), σ.1.length - j = n → j ≤ σ.1.length → ModH h m → MB h m σ → JoyR h m S σ.1 ok (b + 1) → (∀ l, l < j → b.testBit l = true → hI h (m + 27 + b) l = sI (glads σ.1.length S ok (fondP σ.1) b l)) →
    ∃ h1, (∀ o h', (∀ x3 : Int32, J mX8_glad (d + 4) 70 [some (.ref m), some (.int (nI S)), some (.int (nI b)), some (.int x3)] [] h1 o h') → J mX8_glad (d + 4) 24 [some (.ref m), some (.int (nI S)), some (.int (nI b)), some (.int (nI j))] [] h o h') ∧ Upf (fun i _ => m + 27 ≤ i ∧ i ≤ m + 282) h h1 ∧ JoyR h1 m S σ.1 ok b := by
  intro n
  induction n with
  | zero =>
    intro j h hn hl hM hB hj hb
    have n8 := hB.n8
    have : j = σ.1.length := by omega
    subst this
    refine ⟨h, fun o h' kk => k_X8_glad_24 hM.g (fun _ => kk _) (fun q => absurd (by rw [hB.n]; exact nI_le (by omega) (by omega)) q), Upf.rf, fun x l h1 h2 h3 h4 h5 => ?_⟩
    by_cases e : x = b
    · subst e; exact hb l h4 h5
    · exact hj x l (by omega) h2 h3 h4 h5
  | succ n ih =>
    intro j h hn hl hM hB hj hb
    have n8 := hB.n8
    have h256 := pow_le8 n8
    have hbS := subS_le hsub
    have hjl : j < σ.1.length := by omega
    have ent : ∀ {o : Option Value} {h' : PH}, J mX8_glad (d + 4) 40 [some (.ref m), some (.int (nI S)), some (.int (nI b)), some (.int (nI j))] [] h o h' → J mX8_glad (d + 4) 24 [some (.ref m), some (.int (nI S)), some (.int (nI b)), some (.int (nI j))] [] h o h' := fun kk => k_X8_glad_24 hM.g (fun q => absurd q (by rw [hB.n]; exact nI_ge hjl (by omega))) (fun _ => k_X8_glad_32 (fun z => absurd ((sub_I (by omega) (by omega)).mpr hsub) z) (fun _ => kk))
    cases hbl : b.testBit j with
    | false =>
      obtain ⟨h1, b1, b2, b3⟩ := ih (j + 1) h (by omega) (by omega) hM hB hj (fun l h1 h2 => by
        by_cases e : l = j
        · subst e; rw [hbl] at h2; cases h2
        · exact hb l (by omega) h2)
      refine ⟨h1, fun o h' kk => ent (k_X8_glad_40 (fun _ => k_X8_glad_64 ?_) (fun z => absurd ((shr1_iff (by omega) (by omega)).mp z) (by rw [hbl]; decide))), b2, b3⟩
      rw [nI_1]
      exact b1 o h' kk
    | true =>
      have cb : (nI b).toNatClampNeg = b := nI_clamp (by omega)
      have cj : (nI j).toNatClampNeg = j := nI_clamp (by omega)
      have U : Upf (fun i _ => m + 27 ≤ i ∧ i ≤ m + 282) h (setI h (m + 27 + b) (nI j).toNatClampNeg (sI (glads σ.1.length S ok (fondP σ.1) b j))) := Upf.set (by omega)
      have hg := u_gladFrom (d := d) eok hS hsub hk hM hB hj (la := nI j) (fo := fondP σ.1 j) (Or.inr ⟨j, hjl, rfl, rfl⟩)
      rw [show maxZ (GJ σ.1.length S ok (fondP σ.1) (fondP σ.1 j) b) (if b = S then 0 else -1) σ.1.length = glads σ.1.length S ok (fondP σ.1) b j from (glads_eq hk b j).symm] at hg
      obtain ⟨h1, b1, b2, b3⟩ := ih (j + 1) _ (by omega) (by omega) (hM.keep U) (hB.keep U k27) (fun x l h1 h2 h3 h4 h5 => by rw [hI_setI, if_neg (by omega)]; exact hj x l h1 h2 h3 h4 h5) (fun l h1 h2 => by
        rw [cj, hI_setI]
        by_cases e : l = j
        · subst e; rw [if_pos ⟨rfl, rfl⟩]
        · rw [if_neg (by omega)]; exact hb l (by omega) h2)
      refine ⟨h1, fun o h' kk => ent (k_X8_glad_40 (fun z => absurd ((shr1_iff (by omega) (by omega)).mpr hbl) z) (fun _ => k_X8_glad_49 hM.g hM.r33 hM.g33 (by decide) (vp_in_nI (by omega) (by omega)) (by rw [cb]; exact hM.rj (by omega)) hg (Or.inl rfl) (hM.gj (by omega)) (vp_in_nI (by omega) (by omega)) (k_X8_glad_64 ?_))), U.tr b2, b3⟩
      rw [nI_1]
      exact b1 o h' kk
theorem v_glad {S : Nat} {ok : Nat → Nat → Bool} (eok : ok = okS σ.1 σ.2.2.1 S) (hS : S < 2 ^ σ.1.length) (hk : stepsOK σ.1.length S ok) : ∀ b (h : PH), b ≤ S → ModH h m → MB h m σ → JoyR h m S σ.1 ok (b + 1) →
    ∃ h1, J mX8_glad (d + 4) 18 [some (.ref m), some (.int (nI S)), some (.int (nI b)), none] [] h (some (.int (sI (gladT σ.1 S ok)))) h1 ∧ Upf (fun i _ => m + 27 ≤ i ∧ i ≤ m + 282) h h1 := by
  intro b
  induction b with
  | zero =>
    intro h hb hM hB hj
    have hg := u_gladFrom (d := d) (b := 0) eok hS subS_0 hk hM hB hj (la := -1) (fo := fun _ => 0) (Or.inl ⟨rfl, fun _ => rfl⟩)
    have e : maxZ (GJ σ.1.length S ok (fondP σ.1) (fun _ => 0) 0) (if 0 = S then 0 else -1) σ.1.length = gladT σ.1 S ok := by
      unfold gladT
      rw [show (if 0 = S then (0 : Int) else -1) = if S = 0 then 0 else -1 by split <;> split <;> omega]
      refine maxZ_cong _ (fun i _ => ?_)
      unfold GJ
      rw [Nat.zero_or]
      cases ho : ok 0 i with
      | false => rfl
      | true =>
        rw [if_pos rfl, if_pos rfl]
        show (if glads σ.1.length S ok (fondP σ.1) (2 ^ i) i = -1 then (-1 : Int) else glads σ.1.length S ok (fondP σ.1) (2 ^ i) i + ((0 : Nat) : Int)) = glads σ.1.length S ok (fondP σ.1) (2 ^ i) i
        split <;> omega
    rw [e] at hg
    exact ⟨h, k_X8_glad_18 (fun _ => k_X8_glad_76 hg (Or.inl rfl) hM.g) (fun z => absurd (by decide) z), Upf.rf⟩
  | succ b ih =>
    intro h hb hM hB hj
    have n8 := hB.n8
    have h256 := pow_le8 n8
    have nxt : ∀ h2 : PH, Upf (fun i _ => m + 27 ≤ i ∧ i ≤ m + 282) h h2 → JoyR h2 m S σ.1 ok (b + 1) → ∃ h1, (∀ x3 : Int32, J mX8_glad (d + 4) 70 [some (.ref m), some (.int (nI S)), some (.int (nI (b + 1))), some (.int x3)] [] h2 (some (.int (sI (gladT σ.1 S ok)))) h1) ∧ Upf (fun i _ => m + 27 ≤ i ∧ i ≤ m + 282) h h1 := fun h2 U2 hj2 => by
      obtain ⟨h1, b1, b2⟩ := ih h2 (by omega) (hM.keep U2) (hB.keep U2 k27) hj2
      refine ⟨h1, fun x3 => k_X8_glad_70 ?_, U2.tr b2⟩
      rw [dec_I, show sI (((b + 1 : Nat) : Int) - 1) = nI b by rw [nI_sI]; congr 1; omega]
      exact b1
    have ent : ∀ {o : Option Value} {h' : PH}, J mX8_glad (d + 4) 24 [some (.ref m), some (.int (nI S)), some (.int (nI (b + 1))), some (.int (nI 0))] [] h o h' → J mX8_glad (d + 4) 18 [some (.ref m), some (.int (nI S)), some (.int (nI (b + 1))), none] [] h o h' := fun kk => k_X8_glad_18 (fun z => absurd z (nI_ge (a := 0) (b := b + 1) (by omega) (by omega))) (fun _ => k_X8_glad_22 kk)
    by_cases hsub : subS (b + 1) S
    · obtain ⟨h2, a1, a2, a3⟩ := v_gladLast (d := d) (m := m) eok hS hsub hk _ 0 h rfl (Nat.zero_le _) hM hB hj (fun l z => absurd z (Nat.not_lt_zero l))
      obtain ⟨h1, b1, b2⟩ := nxt h2 a2 a3
      exact ⟨h1, ent (a1 _ _ b1), b2⟩
    · obtain ⟨h1, b1, b2⟩ := nxt h Upf.rf (fun x l h1 h2 h3 h4 h5 => by
        by_cases e : x = b + 1
        · subst e; exact absurd h3 hsub
        · exact hj x l (by omega) h2 h3 h4 h5)
      refine ⟨h1, ent (k_X8_glad_24 hM.g (fun _ => b1 _) (fun _ => k_X8_glad_32 (fun _ => b1 _) (fun z => absurd ((sub_I (by omega) (by omega)).mp z) hsub))), b2⟩
variable {ko to : Option Nat} {T : TS}
theorem m_glad {s : Int32} (hS : MS h m ko to T) : RfQ mX8_glad (d + 10) [.ref m, .int s] h m ko to T (q_glad T.1 s) := by
  have hS0 := hS
  obtain ⟨hT, hM, hB, hTp, hRf, hSh, hK, hTr⟩ := hS
  obtain ⟨o1, o2, o3, o4, o5, o6⟩ := hT.1
  have n8 := hB.n8
  have l8 := hB.l8
  unfold q_glad
  cases hb : inB s 0 ((2 ^ T.1.1.length : Nat) - 1) with
  | false =>
    rw [if_neg (by decide)]
    exact mqR (k := 0) (by omega) hS0 (fun h1 r e => jm mi_X8_glad (Nat.le_of_ble_eq_true rfl) ⟨.int, rfl, rfl⟩ rfl (k_X8_glad_0 (u_isSet hM hB) (Or.inl rfl) hM.g (fun z => absurd z (by rw [hb]; decide)) (fun _ => k_X8_glad_8 r (Or.inl e) hM.g)))
  | true =>
    rw [if_pos rfl]
    obtain ⟨S, hS1, rfl, hS2⟩ := setB n8 hb
    rw [nn_I (by omega)]
    have hk := okS_steps (P := T.1.1) (w := T.1.2.2.1) n8 hS1
    obtain ⟨h1, a1, a2⟩ := v_glad (d := d + 6) (m := m) (σ := T.1) (S := S) rfl hS1 hk S h (Nat.le_refl _) hM hB (fun x l z1 z2 => by omega)
    exact mqV hS0 ⟨h1, jm mi_X8_glad (Nat.le_of_ble_eq_true rfl) ⟨.int, rfl, rfl⟩ rfl (k_X8_glad_0 (u_isSet hM hB) (Or.inl rfl) hM.g (fun _ => k_X8_glad_16 a1) (fun z => absurd z (by rw [hb]; decide))), a2.mono (fun i k => f27), hB.keep a2 k27⟩
end JG
