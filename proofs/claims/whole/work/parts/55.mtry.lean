/-! questions of the reference that try towers in thought -/
theorem bitI {p : Nat} (hp : p < 31) : (1 : Int32) <<< (nI p &&& 31) = nI (2 ^ p) := shl_bit p hp
theorem mask_mk {f : Nat → Bool} {L : List Nat} {n : Nat} (hd : L.Nodup) (hL : ∀ x ∈ L, x < n) : maskL f L = mkN (fun p => match courseF L p 0 with | none => false | some k => f k) n := by
  apply Nat.eq_of_testBit_eq
  intro x
  rw [Bool.eq_iff_iff, mkN_bit]
  unfold maskL
  rw [orN_bit]
  constructor
  · rintro ⟨k, hk, h⟩
    by_cases hf : f k = true
    · rw [if_pos hf, Nat.testBit_two_pow, decide_eq_true_eq] at h
      rw [← h]
      refine ⟨hL _ (getD_mem hk), ?_⟩
      rw [crs_get hd hk]
      exact hf
    · rw [if_neg hf, Nat.zero_testBit] at h
      cases h
  · rintro ⟨hx, h⟩
    cases hc : courseF L x 0 with
    | none => rw [hc] at h; cases h
    | some k =>
      rw [hc] at h
      obtain ⟨h1, h2⟩ := courseF_lt hc
      refine ⟨k, h1, ?_⟩
      have h : f k = true := h
      rw [if_pos h, h2, Nat.testBit_two_pow, decide_eq_true_eq]
section TQ
variable {d : Nat} {h : PH} {m : Nat} {ko to : Option Nat} {T : TS}
theorem m_gale (hS : MS h m ko to T) : RfQ mX8_gale (d + 10) [.ref m] h m ko to T (q_gale T.1) := by
  have hS0 := hS
  obtain ⟨hT, hM, hB, hTp, hRf, hSh, hK, hTr⟩ := hS
  obtain ⟨o1, o2, o3, o4, o5, o6⟩ := hT.1
  have n8 := hB.n8
  have l8 := hB.l8
  obtain ⟨h1, a1, a2, a3⟩ := u_galeNow (d := d + 3) hM hB o1
  exact mqV hS0 ⟨h1, jm mi_X8_gale (Nat.le_of_ble_eq_true rfl) ⟨.int, rfl, rfl⟩ rfl (k_X8_gale_0 a1 (Or.inl a2.1) hM.g), a2.mono (fun i k q => Or.inl (fGV q)), a3⟩
theorem m_chance (hS : MS h m ko to T) : RfQ mX8_chance (d + 10) [.ref m] h m ko to T (q_chance T.1) := by
  have hS0 := hS
  obtain ⟨hT, hM, hB, hTp, hRf, hSh, hK, hTr⟩ := hS
  obtain ⟨o1, o2, o3, o4, o5, o6⟩ := hT.1
  have n8 := hB.n8
  have l8 := hB.l8
  have U : Upf (fG m) h (setI h m 9 0) := Upf.set ⟨rfl, rfl⟩
  obtain ⟨h1, hJ, hU, hs⟩ := v_chance (d := d + 4) (σ := T.1) (τ := T.1.2.2.2) (was := hI h m 9) o1 10 0 (setI h m 9 0) rfl (by omega) (hM.keep U) (hB.wind U (by rw [hI_setI, if_pos ⟨rfl, rfl⟩]; rfl) (by omega))
  have ec := cnt_last (f := fun w => firmB T.1.1 w T.1.2.1) (fun w v hv hf => firm_mono hv hf) 10
  have e : (100000 : Int32) * nI (sumN (fun w => if firmB T.1.1 w T.1.2.1 then 1 else 0) 10) = (oI (galeF T.1.1 T.1.2.1) + 1) * 100000 := by
    rw [ec]
    unfold galeF
    cases lastBelow (fun w => firmB T.1.1 w T.1.2.1) 10 with
    | none => rfl
    | some k =>
      show (100000 : Int32) * nI (k + 1) = (nI k + 1) * 100000
      rw [nI_1, show (100000 : Int32) = nI 100000 from rfl, pk_mul, pk_mul, Nat.mul_comm]
  rw [e] at hJ
  exact mqV hS0 ⟨h1, jm mi_X8_chance (Nat.le_of_ble_eq_true rfl) ⟨.int, rfl, rfl⟩ rfl (k_X8_chance_0 hM.g hJ), (U.tr hU).mono (fun i k q => Or.inl (fGV q)), hB.wind (U.tr hU) (hs.trans hB.wi) hB.w10⟩
theorem m_next (hS : MS h m ko to T) : RfQ mX8_next (d + 10) [.ref m] h m ko to T (q_next T.1) := by
  have hS0 := hS
  obtain ⟨hT, hM, hB, hTp, hRf, hSh, hK, hTr⟩ := hS
  obtain ⟨o1, o2, o3, o4, o5, o6⟩ := hT.1
  have n8 := hB.n8
  have l8 := hB.l8
  unfold q_next
  by_cases hn : T.1.1.length = 0
  · have e : behindF T.1.1.length (roomL T.1.2.2.2.1 T.1.1.length T.1.2.1) = none := by rw [hn]; rfl
    rw [e]
    exact mq0 hS0 (jm mi_X8_next (Nat.le_of_ble_eq_true rfl) ⟨.int, rfl, rfl⟩ rfl (k_X8_next_0 hM.g (fun z => absurd (by rw [hB.n, hn]; rfl) z) (fun _ => k_X8_next_7 k_X8_next_15)))
  · obtain ⟨k, hk, hkn⟩ := behind_ex hT.1 (by omega)
    rw [hk]
    exact mq0 hS0 (jm mi_X8_next (Nat.le_of_ble_eq_true rfl) ⟨.int, rfl, rfl⟩ rfl (k_X8_next_0 hM.g (fun _ => k_X8_next_11 (u_nextNow hM hB hT.1 (by omega) hk) (Or.inl rfl) hM.g k_X8_next_15) (fun z => absurd ((nI_eq (b := 0) (by omega) (by omega)).mp (hB.n.symm.trans z)) hn)))
theorem v_out {σ : WS} (hL : inP σ.1 σ.2.1) : ∀ n j (h : PH), σ.1.length - j = n → j ≤ σ.1.length → ModH h m → MB h m σ →
    ∃ h1, J mX8_out (d + 6) 4 [some (.ref m), some (.int (nI (mkN (fun p => match courseF σ.2.1 p 0 with | none => false | some k => firmB σ.1 σ.2.2.1 (delL σ.2.1 k)) j))), some (.int (nI j)), none] [] h (some (.int (nI (mkN (fun p => match courseF σ.2.1 p 0 with | none => false | some k => firmB σ.1 σ.2.2.1 (delL σ.2.1 k)) σ.1.length)))) h1 ∧ Upf (fV m) h h1 ∧ MB h1 m σ := by
  intro n
  induction n with
  | zero =>
    intro j h hj hl hM hB
    have n8 := hB.n8
    have : j = σ.1.length := by omega
    subst this
    exact ⟨h, k_X8_out_4 hM.g (fun _ => k_X8_out_58) (fun q => absurd (by rw [hB.n]; exact nI_le (by omega) (by omega)) q), Upf.rf, hB⟩
  | succ n ih =>
    intro j h hj hl hM hB
    have n8 := hB.n8
    have l8 := hB.l8
    have hjl : j < σ.1.length := by omega
    have hc := u_courseOf (d := d + 5) (x := j) hM hB hL (by omega)
    have hs := mkN_succ (f := fun p => match courseF σ.2.1 p 0 with | none => false | some k => firmB σ.1 σ.2.2.1 (delL σ.2.1 k)) (n := j)
    cases hk : courseF σ.2.1 j 0 with
    | none =>
      rw [hk] at hc hs
      rw [if_neg (fun z => by cases z)] at hs
      obtain ⟨h1, b1, b2, b3⟩ := ih (j + 1) h (by omega) (by omega) hM hB
      rw [hs] at b1
      exact ⟨h1, k_X8_out_4 hM.g (fun q => absurd q (by rw [hB.n]; exact nI_ge hjl (by omega))) (fun _ => k_X8_out_12 hc (Or.inl rfl) hM.g (fun _ => k_X8_out_52 (by rw [nI_1]; exact b1)) (fun z => absurd rfl z)), b2, b3⟩
    | some k =>
      rw [hk] at hc hs
      obtain ⟨hkl, hkx⟩ := courseF_lt hk
      obtain ⟨h1, a1, a2, a3⟩ := u_takes (d := d + 5) hM hB hkl
      have hM1 := hM.keep a2
      have s1 := u_isStanding (d := d) hM1 a3 (delL_in hL)
      obtain ⟨h2, c1, c2, c3⟩ := u_puts (d := d + 5) (k := k) (x := j) hM1 a3 (by show k ≤ (delL σ.2.1 k).length; rw [delL_len hkl]; omega) (by show (delL σ.2.1 k).length < 8; rw [delL_len hkl]; omega)
      have c3 : MB h2 m (σ.1, insL (delL σ.2.1 k) k j, σ.2.2) := c3
      rw [← hkx, ins_del hkl] at c3
      have U : Upf (fV m) h h2 := (a2.tr c2).mono (fun i k => fPV)
      obtain ⟨h3, b1, b2, b3⟩ := ih (j + 1) h2 (by omega) (by omega) (hM1.keep c2) c3
      rw [hs] at b1
      have fin : ∀ (v w : Nat), nI v ||| nI w = nI (if firmB σ.1 σ.2.2.1 (delL σ.2.1 k) = true then mkN (fun p => match courseF σ.2.1 p 0 with | none => false | some k => firmB σ.1 σ.2.2.1 (delL σ.2.1 k)) j ||| 2 ^ j else mkN (fun p => match courseF σ.2.1 p 0 with | none => false | some k => firmB σ.1 σ.2.2.1 (delL σ.2.1 k)) j) → J mX8_out (d + 6) 44 [some (.ref m), some (.int (nI v)), some (.int (nI j)), some (.int (nI k))] [.int (nI w), .int (nI v)] h1 (some (.int (nI (mkN (fun p => match courseF σ.2.1 p 0 with | none => false | some k => firmB σ.1 σ.2.2.1 (delL σ.2.1 k)) σ.1.length)))) h3 := fun v w e => k_X8_out_44 c1 (Or.inl c2.1) hM1.g (by rw [e]; exact k_X8_out_52 (by rw [nI_1]; exact b1))
      refine ⟨h3, k_X8_out_4 hM.g (fun q => absurd q (by rw [hB.n]; exact nI_ge hjl (by omega))) (fun _ => k_X8_out_12 hc (Or.inl rfl) hM.g (fun z => absurd z (nI_nneg1 (n := k) (by omega))) (fun _ => k_X8_out_23 a1 (Or.inl a2.1) hM.g s1 (Or.inl rfl) hM1.g (fun q => ?_) (fun q => ?_))), U.tr b2, b3⟩
      · have q := bI_0.mp q
        refine k_X8_out_43 (fin _ 0 ?_)
        rw [if_neg (by rw [q]; decide), fa_or, Nat.or_zero]
      · have q := bI_n0.mp q
        refine k_X8_out_37 ?_
        rw [bitI (by omega)]
        refine fin _ _ ?_
        rw [if_pos q, fa_or]
theorem m_out (hS : MS h m ko to T) : RfQ mX8_out (d + 10) [.ref m] h m ko to T (q_out T.1) := by
  have hS0 := hS
  obtain ⟨hT, hM, hB, hTp, hRf, hSh, hK, hTr⟩ := hS
  obtain ⟨o1, o2, o3, o4, o5, o6⟩ := hT.1
  have n8 := hB.n8
  have l8 := hB.l8
  obtain ⟨h1, a1, a2, a3⟩ := v_out (d := d + 4) o1 _ 0 h rfl (Nat.zero_le _) hM hB
  unfold q_out
  rw [mask_mk o2 o1]
  exact mqV hS0 ⟨h1, jm mi_X8_out (Nat.le_of_ble_eq_true rfl) ⟨.int, rfl, rfl⟩ rfl (k_X8_out_0 a1), a2.mono (fun i k q => Or.inl q), a3⟩
/-- who, of kind w -/
def whoB (σ : WS) (w p : Nat) : Bool := if w = 0 then (courseF σ.2.1 p 0).isSome else if w = 1 then (!(courseF σ.2.1 p 0).isSome && (decide (σ.2.1.length < σ.2.2.2.1) && firmB σ.1 σ.2.2.1 (insL σ.2.1 σ.2.1.length p))) else if w = 2 then (match courseF σ.2.1 p 0 with | none => false | some k => crushB σ.1 σ.2.1 k) else (match courseF σ.2.1 p 0 with | none => false | some k => shakeB σ.1 σ.2.2.1 σ.2.1 k)
theorem v_who {σ : WS} {w : Nat} (hw : w ≤ 3) (ho : okW σ) : ∀ n j (h : PH), σ.1.length - j = n → j ≤ σ.1.length → ModH h m → MB h m σ →
    ∃ h1, J mX8_who (d + 7) 24 [some (.ref m), some (.int (nI w)), some (.int (nI (mkN (whoB σ w) j))), some (.int (nI j)), none, none] [] h (some (.int (nI (mkN (whoB σ w) σ.1.length)))) h1 ∧ Upf (fV m) h h1 ∧ MB h1 m σ := by
  obtain ⟨o1, o2, o3, o4, o5, o6⟩ := ho
  intro n
  induction n with
  | zero =>
    intro j h hj hl hM hB
    have n8 := hB.n8
    have : j = σ.1.length := by omega
    subst this
    exact ⟨h, k_X8_who_24 hM.g (fun _ => k_X8_who_166) (fun q => absurd (by rw [hB.n]; exact nI_le (by omega) (by omega)) q), Upf.rf, hB⟩
  | succ n ih =>
    intro j h hj hl hM hB
    have n8 := hB.n8
    have l8 := hB.l8
    have m8 := hB.m8
    have hjl : j < σ.1.length := by omega
    have hc := u_courseOf (d := d + 6) (x := j) hM hB o1 (by omega)
    have hs := mkN_succ (f := whoB σ w) (n := j)
    -- behind the question: set or not
    have fin : ∀ (h2 : PH), Upf (fV m) h h2 → MB h2 m σ → ∃ h1, (∀ a4 : Int32, J mX8_who (d + 7) 143 [some (.ref m), some (.int (nI w)), some (.int (nI (mkN (whoB σ w) j))), some (.int (nI j)), some (.int a4), none] [.int (bI (whoB σ w j))] h2 (some (.int (nI (mkN (whoB σ w) σ.1.length)))) h1) ∧ Upf (fV m) h h1 ∧ MB h1 m σ := fun h2 U2 B2 => by
      obtain ⟨h3, b1, b2, b3⟩ := ih (j + 1) h2 (by omega) (by omega) (hM.keep U2) B2
      rw [hs] at b1
      refine ⟨h3, fun a4 => k_X8_who_143 (fun q => ?_) (fun q => ?_), U2.tr b2, b3⟩
      · have q := bI_0.mp q
        rw [if_neg (by rw [q]; decide)] at b1
        refine k_X8_who_157 (k_X8_who_158 ?_)
        rw [show (0 : Int32) = nI 0 from rfl, fa_or, Nat.or_zero, nI_1]
        exact b1
      · have q := bI_n0.mp q
        rw [if_pos q] at b1
        refine k_X8_who_151 (k_X8_who_158 ?_)
        rw [bitI (by omega), fa_or, nI_1]
        exact b1
    have ent : ∀ {o : Option Value} {h' : PH}, J mX8_who (d + 7) 32 [some (.ref m), some (.int (nI w)), some (.int (nI (mkN (whoB σ w) j))), some (.int (nI j)), none, none] [] h o h' → J mX8_who (d + 7) 24 [some (.ref m), some (.int (nI w)), some (.int (nI (mkN (whoB σ w) j))), some (.int (nI j)), none, none] [] h o h' := fun kk => k_X8_who_24 hM.g (fun q => absurd q (by rw [hB.n]; exact nI_ge hjl (by omega))) (fun _ => kk)
    have wz : ∀ v : Nat, v ≤ 3 → (nI w = nI v ↔ w = v) := fun v hv => nI_eq (by omega) (by omega)
    obtain ⟨h1, f1, f2, f3⟩ := fin h Upf.rf hB
    have crs : oI (courseF σ.2.1 j 0) = -1 ↔ courseF σ.2.1 j 0 = none := oI_neg (crs_b l8)
    rcases (by omega : w = 0 ∨ w = 1 ∨ w = 2 ∨ w = 3) with rfl | rfl | rfl | rfl
    · have ew : whoB σ 0 j = (courseF σ.2.1 j 0).isSome := rfl
      rw [ew] at f1
      refine ⟨h1, ent (k_X8_who_32 hc (Or.inl rfl) hM.g (fun z => absurd rfl z) (fun _ => k_X8_who_43 (fun q => ?_) (fun q => ?_))), f2, f3⟩
      · rw [crs] at q
        rw [q] at f1 ⊢
        exact k_X8_who_53 (f1 _)
      · rw [crs] at q
        rw [show (courseF σ.2.1 j 0).isSome = true by cases hk : courseF σ.2.1 j 0 with | none => exact absurd hk q | some k => rfl] at f1
        exact k_X8_who_49 (f1 _)
    · have ew : whoB σ 1 j = (!(courseF σ.2.1 j 0).isSome && (decide (σ.2.1.length < σ.2.2.2.1) && firmB σ.1 σ.2.2.1 (insL σ.2.1 σ.2.1.length j))) := rfl
      have ent2 : ∀ {o : Option Value} {h' : PH}, J mX8_who (d + 7) 62 [some (.ref m), some (.int (nI 1)), some (.int (nI (mkN (whoB σ 1) j))), some (.int (nI j)), some (.int (oI (courseF σ.2.1 j 0))), none] [] h o h' → J mX8_who (d + 7) 24 [some (.ref m), some (.int (nI 1)), some (.int (nI (mkN (whoB σ 1) j))), some (.int (nI j)), none, none] [] h o h' := fun kk => ent (k_X8_who_32 hc (Or.inl rfl) hM.g (fun _ => k_X8_who_57 (fun z => absurd rfl z) (fun _ => kk)) (fun z => absurd z (by decide)))
      cases hk : (courseF σ.2.1 j 0).isSome with
      | true =>
        rw [hk, Bool.not_true, Bool.false_and] at ew
        rw [ew] at f1
        refine ⟨h1, ent2 (k_X8_who_62 (fun _ => k_X8_who_91 (f1 _)) (fun q => ?_)), f2, f3⟩
        rw [crs] at q
        rw [q] at hk
        cases hk
      | false =>
        rw [hk, Bool.not_false, Bool.true_and] at ew
        have hno : courseF σ.2.1 j 0 = none := by cases hc' : courseF σ.2.1 j 0 with | none => rfl | some k => rw [hc'] at hk; cases hk
        by_cases hlt : σ.2.1.length < σ.2.2.2.1
        · rw [decide_eq_true hlt, Bool.true_and] at ew
          obtain ⟨h2, s1, s2, s3⟩ := u_standsWith (d := d) (p := j) hM hB o1 hjl (by omega)
          obtain ⟨h1, f1, f2, f3⟩ := fin h2 s2 s3
          rw [ew] at f1
          refine ⟨h1, ent2 (k_X8_who_62 (fun q => absurd (crs.mpr hno) q) (fun _ => k_X8_who_68 hM.g (fun q => absurd q (by rw [hB.mo, hB.sz]; exact nI_ge hlt (by omega))) (fun _ => k_X8_who_79 s1 (Or.inl s2.1) hM.g (fun q => ?_) (fun q => ?_)))), f2, f3⟩
          · rw [bI_0.mp q] at f1
            exact k_X8_who_91 (f1 _)
          · rw [bI_n0.mp q] at f1
            exact k_X8_who_87 (f1 _)
        · rw [decide_eq_false hlt, Bool.false_and] at ew
          rw [ew] at f1
          exact ⟨h1, ent2 (k_X8_who_62 (fun q => absurd (crs.mpr hno) q) (fun _ => k_X8_who_68 hM.g (fun _ => k_X8_who_91 (f1 _)) (fun q => absurd (by rw [hB.mo, hB.sz]; exact nI_le (by omega) (by omega)) q))), f2, f3⟩
    · have ew : whoB σ 2 j = (match courseF σ.2.1 j 0 with | none => false | some k => crushB σ.1 σ.2.1 k) := rfl
      have ent2 : ∀ {o : Option Value} {h' : PH}, J mX8_who (d + 7) 100 [some (.ref m), some (.int (nI 2)), some (.int (nI (mkN (whoB σ 2) j))), some (.int (nI j)), some (.int (oI (courseF σ.2.1 j 0))), none] [] h o h' → J mX8_who (d + 7) 24 [some (.ref m), some (.int (nI 2)), some (.int (nI (mkN (whoB σ 2) j))), some (.int (nI j)), none, none] [] h o h' := fun kk => ent (k_X8_who_32 hc (Or.inl rfl) hM.g (fun _ => k_X8_who_57 (fun _ => k_X8_who_95 (fun z => absurd rfl z) (fun _ => kk)) (fun z => absurd z (by decide))) (fun z => absurd z (by decide)))
      cases hk : courseF σ.2.1 j 0 with
      | none =>
        rw [hk] at ew ent2
        rw [ew] at f1
        exact ⟨h1, ent2 (k_X8_who_100 (fun _ => k_X8_who_119 (f1 _)) (fun z => absurd rfl z)), f2, f3⟩
      | some k =>
        rw [hk] at ew ent2
        obtain ⟨hkl, -⟩ := courseF_lt hk
        rw [ew] at f1
        refine ⟨h1, ent2 (k_X8_who_100 (fun z => absurd z (nI_nneg1 (n := k) (by omega))) (fun _ => k_X8_who_106 (u_crushedAt hM hB o1 hkl) (Or.inl rfl) hM.g (fun q => ?_) (fun q => ?_))), f2, f3⟩
        · dsimp only at f1
          rw [bI_0.mp q] at f1
          exact k_X8_who_119 (f1 _)
        · dsimp only at f1
          rw [bI_n0.mp q] at f1
          exact k_X8_who_115 (f1 _)
    · have ew : whoB σ 3 j = (match courseF σ.2.1 j 0 with | none => false | some k => shakeB σ.1 σ.2.2.1 σ.2.1 k) := rfl
      have ent2 : ∀ {o : Option Value} {h' : PH}, J mX8_who (d + 7) 123 [some (.ref m), some (.int (nI 3)), some (.int (nI (mkN (whoB σ 3) j))), some (.int (nI j)), some (.int (oI (courseF σ.2.1 j 0))), none] [] h o h' → J mX8_who (d + 7) 24 [some (.ref m), some (.int (nI 3)), some (.int (nI (mkN (whoB σ 3) j))), some (.int (nI j)), none, none] [] h o h' := fun kk => ent (k_X8_who_32 hc (Or.inl rfl) hM.g (fun _ => k_X8_who_57 (fun _ => k_X8_who_95 (fun _ => kk) (fun z => absurd z (by decide))) (fun z => absurd z (by decide))) (fun z => absurd z (by decide)))
      cases hk : courseF σ.2.1 j 0 with
      | none =>
        rw [hk] at ew ent2
        rw [ew] at f1
        exact ⟨h1, ent2 (k_X8_who_123 (fun _ => k_X8_who_142 (f1 _)) (fun z => absurd rfl z)), f2, f3⟩
      | some k =>
        rw [hk] at ew ent2
        obtain ⟨hkl, -⟩ := courseF_lt hk
        rw [ew] at f1
        refine ⟨h1, ent2 (k_X8_who_123 (fun z => absurd z (nI_nneg1 (n := k) (by omega))) (fun _ => k_X8_who_129 (u_shakesAt hM hB o1 hkl) (Or.inl rfl) hM.g (fun q => ?_) (fun q => ?_))), f2, f3⟩
        · dsimp only at f1
          rw [bI_0.mp q] at f1
          exact k_X8_who_142 (f1 _)
        · dsimp only at f1
          rw [bI_n0.mp q] at f1
          exact k_X8_who_138 (f1 _)
theorem m_who {w : Int32} (hS : MS h m ko to T) : RfQ mX8_who (d + 10) [.ref m, .int w] h m ko to T (q_who T.1 w) := by
  have hS0 := hS
  obtain ⟨hT, hM, hB, hTp, hRf, hSh, hK, hTr⟩ := hS
  obtain ⟨o1, o2, o3, o4, o5, o6⟩ := hT.1
  have n8 := hB.n8
  have l8 := hB.l8
  unfold q_who
  cases hb : inB w 0 3 with
  | false =>
    rw [if_neg (by decide)]
    exact mqR (k := 0) (by omega) hS0 (fun h1 r e => jm mi_X8_who (Nat.le_of_ble_eq_true rfl) ⟨.int, rfl, rfl⟩ rfl (k_X8_who_0 t_in_0_3 (Or.inl rfl) (fun z => absurd z (by rw [hb]; decide)) (fun _ => k_X8_who_12 r (Or.inl e) hM.g)))
  | true =>
    rw [if_pos rfl]
    obtain ⟨w, hw, rfl⟩ := inB_nI (n := 3) (by omega) hb
    rw [nn_I (by omega)]
    obtain ⟨h1, a1, a2, a3⟩ := v_who (d := d + 3) hw hT.1 _ 0 h rfl (Nat.zero_le _) hM hB
    have e : mkN (whoB T.1 w) T.1.1.length = (if w = 0 then maskL (fun _ => true) T.1.2.1 else if w = 1 then couldN T.1 else if w = 2 then maskL (crushB T.1.1 T.1.2.1) T.1.2.1 else maskL (shakeB T.1.1 T.1.2.2.1 T.1.2.1) T.1.2.1) := by
      rcases (by omega : w = 0 ∨ w = 1 ∨ w = 2 ∨ w = 3) with rfl | rfl | rfl | rfl
      · rw [if_pos rfl, mask_mk o2 o1]
        refine mkN_ext (fun p _ => ?_)
        show (courseF T.1.2.1 p 0).isSome = _
        cases courseF T.1.2.1 p 0 <;> rfl
      · rw [if_neg (by decide), if_pos rfl]
        unfold couldN
        by_cases hlt : T.1.2.1.length < T.1.2.2.2.1
        · rw [if_pos hlt]
          refine mkN_ext (fun p _ => ?_)
          show (!(courseF T.1.2.1 p 0).isSome && (decide (T.1.2.1.length < T.1.2.2.2.1) && _)) = _
          rw [decide_eq_true hlt, Bool.true_and]
        · rw [if_neg hlt]
          apply Nat.eq_of_testBit_eq
          intro x
          rw [Bool.eq_iff_iff, mkN_bit, Nat.zero_testBit]
          refine ⟨fun z => ?_, fun z => by cases z⟩
          have z2 : (!(courseF T.1.2.1 x 0).isSome && (decide (T.1.2.1.length < T.1.2.2.2.1) && _)) = true := z.2
          rw [decide_eq_false hlt, Bool.false_and, Bool.and_false] at z2
          cases z2
      · rw [if_neg (by decide), if_neg (by decide), if_pos rfl, mask_mk o2 o1]
        rfl
      · rw [if_neg (by decide), if_neg (by decide), if_neg (by decide), mask_mk o2 o1]
        rfl
    rw [e] at a1
    exact mqV hS0 ⟨h1, jm mi_X8_who (Nat.le_of_ble_eq_true rfl) ⟨.int, rfl, rfl⟩ rfl (k_X8_who_0 t_in_0_3 (Or.inl rfl) (fun _ => k_X8_who_20 a1) (fun z => absurd z (by rw [hb]; decide))), a2.mono (fun i k q => Or.inl q), a3⟩
end TQ
