/-! the reference: what changes a pile, and what looks at it changed -/
def fP (m : Nat) : Nat → Nat → Prop := fun i k => (i = m ∧ k = 20) ∨ i = m + 22
theorem fPV {m i k : Nat} (q : fP m i k) : fV m i k := by unfold fP at q; unfold fV; omega
def fG (m : Nat) : Nat → Nat → Prop := fun i k => i = m ∧ k = 9
theorem fGV {m i k : Nat} (q : fG m i k) : fV m i k := by unfold fG at q; unfold fV; omega
section CHM
variable {d : Nat} {h : PH} {m : Nat} {σ : WS}
theorem MB.pile {h1 : PH} {K : List Nat} (hB : MB h m σ) (a : Upf (fP m) h h1) (hK : MPl h1 m K) : MB h1 m (σ.1, K, σ.2.2) :=
  ⟨hB.1.of (fun i k q => a.ii (by unfold fP; omega)), hK, hB.2.2.of (fun i k q => a.ii (by unfold fP; omega))⟩
theorem v_puts {k x len : Nat} (hlen : len < 8) : ∀ n (h : PH), k + n ≤ len → ModH h m → hI h m 20 = nI len →
    ∃ h', J mX8_puts d 5 [some (.ref m), some (.int (nI k)), some (.int (nI x)), some (.int (nI (k + n)))] [] h none h' ∧ Upf (fP m) h h' ∧ hI h' m 20 = nI (len + 1) ∧ ∀ i, hI h' (m + 22) i = if i = k then nI x else if k < i ∧ i ≤ k + n then hI h (m + 22) (i - 1) else hI h (m + 22) i := by
  intro n
  induction n with
  | zero =>
    intro h hk hM h5
    have := k_X8_puts_30 (d := d) (a1 := nI k) (a2 := nI x) (a3 := nI k) hM.g hM.r19 hM.g19 (vp_in_nI (by omega) (by omega))
    rw [nI_clamp (by omega), hI_setI, if_neg (fun e => by omega), h5, nI_1] at this
    refine ⟨_, k_X8_puts_5 (fun _ => this) (fun q => absurd (nI_le (by omega) (by omega)) q), (Upf.set (Or.inr rfl)).tr (Upf.set (Or.inl ⟨rfl, rfl⟩)), by rw [hI_setI, if_pos ⟨rfl, rfl⟩], fun i => ?_⟩
    rw [hI_setI, if_neg (fun e => by omega), hI_setI]
    by_cases hi : i = k
    · rw [if_pos ⟨rfl, hi⟩, if_pos hi]
    · rw [if_neg (fun e => hi e.2), if_neg hi, if_neg (by omega)]
  | succ n ih =>
    intro h hk hM h5
    have e1 : nI (k + (n + 1)) - (1 : Int32) = nI (k + n) := nI_pred (k + n)
    obtain ⟨h', hJ, hU, hs, hc⟩ := ih (setI h (m + 22) (k + (n + 1)) (hI h (m + 22) (k + n))) (by omega) (hM.keep (F := fun _ _ => True) (Upf.set trivial)) (by rw [hI_setI, if_neg (fun e => by omega)]; exact h5)
    refine ⟨h', k_X8_puts_5 (fun q => absurd q (nI_ge (by omega) (by omega))) (fun _ => k_X8_puts_10 hM.g hM.r19 hM.g19 (by rw [e1]; exact (vp_in_nI (by omega) (by omega))) (vp_in_nI (by omega) (by omega)) ?_), (Upf.set (Or.inr rfl)).tr hU, hs, fun i => ?_⟩
    · rw [e1, nI_clamp (by omega), nI_clamp (by omega), show k + (n + 1) = (k + n) + 1 from rfl, pk_m1]
      exact hJ
    · rw [hc i]
      by_cases hi : i = k
      · rw [if_pos hi, if_pos hi]
      · rw [if_neg hi, if_neg hi]
        by_cases h2 : k < i ∧ i ≤ k + n
        · rw [if_pos h2, if_pos ⟨h2.1, by omega⟩, hI_setI, if_neg (fun e => by omega)]
        · rw [if_neg h2, hI_setI]
          by_cases h3 : i = k + (n + 1)
          · rw [if_pos ⟨rfl, h3⟩, if_pos ⟨by omega, by omega⟩]
            congr 1
            omega
          · rw [if_neg (fun e => h3 e.2), if_neg (by omega)]
theorem u_puts {k x : Nat} (hM : ModH h m) (hB : MB h m σ) (hk : k ≤ σ.2.1.length) (hl : σ.2.1.length < 8) : ∃ h', JMt mX8_puts none d [.ref m, .int (nI k), .int (nI x)] h none h' ∧ Upf (fP m) h h' ∧ MB h' m (σ.1, insL σ.2.1 k x, σ.2.2) := by
  obtain ⟨h', hJ, hU, hs, hc⟩ := v_puts (d := d) (m := m) (k := k) (x := x) (len := σ.2.1.length) hl (σ.2.1.length - k) h (by omega) hM hB.sz
  rw [show k + (σ.2.1.length - k) = σ.2.1.length by omega] at hJ
  refine ⟨h', jm mi_X8_puts (Nat.le_of_ble_eq_true rfl) rfl rfl (k_X8_puts_0 hM.g (by rw [hB.sz]; exact hJ)), hU, hB.pile hU ⟨by rw [hs, insL_len hk], by rw [insL_len hk]; omega, fun i hi => ?_⟩⟩
  rw [insL_len hk] at hi
  rw [hc i, insL_get hk]
  by_cases h1 : i < k
  · rw [if_neg (by omega), if_neg (by omega), if_pos h1, hB.sk (by omega)]
  · rw [if_neg h1]
    by_cases h2 : i = k
    · rw [if_pos h2, if_pos h2]
    · rw [if_neg h2, if_neg h2, if_pos ⟨by omega, by omega⟩, hB.sk (by omega)]
theorem v_takes {k len : Nat} {v : Int32} (hlen : len ≤ 8) (hk : k < len) : ∀ n j (h : PH), len - 1 - j = n → k ≤ j → j ≤ len - 1 → ModH h m → hI h m 20 = nI len →
    ∃ h', J mX8_takes d 9 [some (.ref m), some (.int (nI k)), some (.int v), some (.int (nI j))] [] h (some (.int v)) h' ∧ Upf (fP m) h h' ∧ hI h' m 20 = nI (len - 1) ∧ ∀ i, hI h' (m + 22) i = if j ≤ i ∧ i < len - 1 then hI h (m + 22) (i + 1) else hI h (m + 22) i := by
  have el : nI len - (1 : Int32) = nI (len - 1) := by rw [show (1 : Int32) = nI 1 from rfl, pk_sub (by omega)]
  intro n
  induction n with
  | zero =>
    intro j h hn hkj hj hM h5
    refine ⟨_, k_X8_takes_9 hM.g (fun _ => k_X8_takes_39 hM.g) (fun q => absurd (by rw [h5, el]; exact nI_le (by omega) (by omega)) q), Upf.set (Or.inl ⟨rfl, rfl⟩), ?_, fun i => ?_⟩
    · rw [hI_setI, if_pos ⟨rfl, rfl⟩, h5, el]
    · rw [hI_setI, if_neg (fun e => by omega), if_neg (by omega)]
  | succ n ih =>
    intro j h hn hkj hj hM h5
    have e1 : nI j + (1 : Int32) = nI (j + 1) := nI_1 j
    obtain ⟨h', hJ, hU, hs, hc⟩ := ih (j + 1) (setI h (m + 22) j (hI h (m + 22) (j + 1))) (by omega) (by omega) (by omega) (hM.keep (F := fun _ _ => True) (Upf.set trivial)) (by rw [hI_setI, if_neg (fun e => by omega)]; exact h5)
    refine ⟨h', k_X8_takes_9 hM.g (fun q => absurd q (by rw [h5, el]; exact nI_ge (by omega) (by omega))) (fun _ => k_X8_takes_19 hM.g hM.r19 hM.g19 (by rw [e1]; exact (vp_in_nI (by omega) (by omega))) (vp_in_nI (by omega) (by omega)) ?_), (Upf.set (Or.inr rfl)).tr hU, hs, fun i => ?_⟩
    · rw [e1, nI_clamp (by omega), nI_clamp (by omega)]
      exact hJ
    · rw [hc i]
      by_cases h2 : j + 1 ≤ i ∧ i < len - 1
      · rw [if_pos h2, if_pos ⟨by omega, h2.2⟩, hI_setI, if_neg (fun e => by omega)]
      · rw [if_neg h2, hI_setI]
        by_cases h3 : i = j
        · rw [if_pos ⟨rfl, h3⟩, if_pos ⟨by omega, by omega⟩, h3]
        · rw [if_neg (fun e => h3 e.2), if_neg (by omega)]
theorem u_takes {k : Nat} (hM : ModH h m) (hB : MB h m σ) (hk : k < σ.2.1.length) : ∃ h', JMt mX8_takes (some .int) d [.ref m, .int (nI k)] h (some (.int (nI (σ.2.1.getD k 0)))) h' ∧ Upf (fP m) h h' ∧ MB h' m (σ.1, delL σ.2.1 k, σ.2.2) := by
  have l8 := hB.l8
  obtain ⟨h', hJ, hU, hs, hc⟩ := v_takes (d := d) (m := m) (k := k) (v := nI (σ.2.1.getD k 0)) (len := σ.2.1.length) l8 hk (σ.2.1.length - 1 - k) k h rfl (Nat.le_refl _) (by omega) hM hB.sz
  refine ⟨h', jm mi_X8_takes (Nat.le_of_ble_eq_true rfl) ⟨.int, rfl, rfl⟩ rfl (k_X8_takes_0 hM.g hM.r19 hM.g19 (vp_in_nI (by omega) (by omega)) (by rw [nI_clamp (by omega), hB.sk hk]; exact hJ)), hU, hB.pile hU ⟨by rw [hs, delL_len hk], by rw [delL_len hk]; omega, fun i hi => ?_⟩⟩
  rw [delL_len hk] at hi
  rw [hc i, delL_get (by omega)]
  by_cases h1 : i < k
  · rw [if_neg (by omega), if_pos h1, hB.sk (by omega)]
  · rw [if_neg h1, if_pos ⟨by omega, by omega⟩, hB.sk (by omega)]
theorem u_changes {a b : Nat} (hM : ModH h m) (hB : MB h m σ) (ha : a < σ.2.1.length) (hb : b < σ.2.1.length) : ∃ h', JMt mX8_changes none d [.ref m, .int (nI a), .int (nI b)] h none h' ∧ Upf (fP m) h h' ∧ MB h' m (σ.1, swapL σ.2.1 a b, σ.2.2) := by
  have l8 := hB.l8
  have := k_X8_changes_0 (d := d) (a1 := nI a) (a2 := nI b) hM.g hM.r19 hM.g19 (vp_in_nI (by omega) (by omega)) (vp_in_nI (by omega) (by omega)) (vp_in_nI (by omega) (by omega)) (vp_in_nI (by omega) (by omega))
  rw [nI_clamp (by omega), nI_clamp (by omega)] at this
  have U : Upf (fP m) h (setI (setI h (m + 22) a (hI h (m + 22) b)) (m + 22) b (hI h (m + 22) a)) := (Upf.set (Or.inr rfl)).tr (Upf.set (Or.inr rfl))
  refine ⟨_, jm mi_X8_changes (Nat.le_of_ble_eq_true rfl) rfl rfl this, U, hB.pile U ⟨?_, by rw [swapL_len]; exact l8, fun i hi => ?_⟩⟩
  · rw [swapL_len, hI_setI, if_neg (fun e => by omega), hI_setI, if_neg (fun e => by omega), hB.sz]
  · rw [swapL_len] at hi
    rw [hI_setI, hI_setI]
    unfold swapL
    rw [getD_set (by rw [List.length_set]; exact hb), getD_set ha]
    by_cases h1 : i = b
    · rw [if_pos ⟨rfl, h1⟩, if_pos h1, hB.sk ha]
    · rw [if_neg (fun e => h1 e.2), if_neg h1]
      by_cases h2 : i = a
      · rw [if_pos ⟨rfl, h2⟩, if_pos h2, hB.sk hb]
      · rw [if_neg (fun e => h2 e.2), if_neg h2, hB.sk hi]
/-! winds -/
theorem MB.wind {h1 : PH} {w : Nat} (hB : MB h m σ) (a : Upf (fG m) h h1) (hw : hI h1 m 9 = nI w) (h10 : w ≤ 10) : MB h1 m (σ.1, σ.2.1, w, σ.2.2.2) :=
  ⟨hB.1.of (fun i k q => a.ii (by unfold fG; omega)), hB.2.1.of (fun i k q => a.ii (by unfold fG; omega)), by
    obtain ⟨c1, c2, c3, c4, c5, c6, c7⟩ := hB.2.2
    exact ⟨hw, by rw [a.ii (by unfold fG; omega)]; exact c2, by rw [a.ii (by unfold fG; omega)]; exact c3, by rw [a.ii (by unfold fG; omega)]; exact c4, by rw [a.ii (by unfold fG; omega)]; exact c5, h10, c7⟩⟩
theorem v_gale {was : Int32} {τ : Nat × Nat × Int32 × Int32} (hL : inP σ.1 σ.2.1) : ∀ n w (h : PH), 10 - w = n → w ≤ 10 → ModH h m → MB h m (σ.1, σ.2.1, w, τ) →
    ∃ h1, J mX8_galeNow (d + 6) 12 [some (.ref m), some (.int was), some (.int (oI (lastBelow (fun w => firmB σ.1 w σ.2.1) w)))] [] h (some (.int (oI (galeF σ.1 σ.2.1)))) h1 ∧ Upf (fG m) h h1 ∧ hI h1 m 9 = was := by
  intro n
  induction n with
  | zero =>
    intro w h hn hw hM hB
    have : w = 10 := by omega
    subst this
    refine ⟨_, k_X8_galeNow_12 hM.g (fun _ => k_X8_galeNow_50 hM.g) (fun q => absurd (by rw [hB.wi]; exact nI_lt (a := 9) (b := 10) (by omega) (by omega)) q), Upf.set ⟨rfl, rfl⟩, by rw [hI_setI, if_pos ⟨rfl, rfl⟩]⟩
  | succ n ih =>
    intro w h hn hw hM hB
    have U : Upf (fG m) h (setI h m 9 (hI h m 9 + 1)) := Upf.set ⟨rfl, rfl⟩
    have e1 : hI h m 9 + (1 : Int32) = nI (w + 1) := by rw [hB.wi, nI_1]
    obtain ⟨h1, hJ, hU, hs⟩ := ih (w + 1) (setI h m 9 (hI h m 9 + 1)) (by omega) (by omega) (hM.keep U) (hB.wind U (by rw [hI_setI, if_pos ⟨rfl, rfl⟩, e1]) (by omega))
    refine ⟨h1, k_X8_galeNow_12 hM.g (fun q => absurd q (by rw [hB.wi]; exact nI_nlt (a := 9) (b := w) (by omega) (by omega))) (fun _ => k_X8_galeNow_21 (u_isStanding hM hB hL) (Or.inl rfl) hM.g (fun q => ?_) (fun q => ?_)), U.tr hU, hs⟩
    · refine k_X8_galeNow_35 (k_X8_galeNow_36 hM.g ?_)
      have : lastBelow (fun w => firmB σ.1 w σ.2.1) (w + 1) = lastBelow (fun w => firmB σ.1 w σ.2.1) w := by
        show (if firmB σ.1 w σ.2.1 = true then _ else _) = _
        rw [if_neg (by rw [Bool.not_eq_true]; exact bI_0.mp q)]
      rw [← this]
      exact hJ
    · refine k_X8_galeNow_28 hM.g (k_X8_galeNow_36 hM.g ?_)
      have : lastBelow (fun w => firmB σ.1 w σ.2.1) (w + 1) = some w := by
        show (if firmB σ.1 w σ.2.1 = true then _ else _) = _
        rw [if_pos (bI_n0.mp q)]
      rw [this] at hJ
      rw [hB.wi]
      rw [hB.wi] at hJ
      exact hJ
theorem u_galeNow (hM : ModH h m) (hB : MB h m σ) (hL : inP σ.1 σ.2.1) : ∃ h1, JMt mX8_galeNow (some .int) (d + 6) [.ref m] h (some (.int (oI (galeF σ.1 σ.2.1)))) h1 ∧ Upf (fG m) h h1 ∧ MB h1 m σ := by
  have U : Upf (fG m) h (setI h m 9 0) := Upf.set ⟨rfl, rfl⟩
  obtain ⟨h1, hJ, hU, hs⟩ := v_gale (d := d) (σ := σ) (τ := σ.2.2.2) (was := hI h m 9) hL 10 0 (setI h m 9 0) rfl (by omega) (hM.keep U) (hB.wind U (by rw [hI_setI, if_pos ⟨rfl, rfl⟩]; rfl) (by omega))
  exact ⟨h1, jm mi_X8_galeNow (Nat.le_of_ble_eq_true rfl) ⟨.int, rfl, rfl⟩ rfl (k_X8_galeNow_0 hM.g hJ), U.tr hU, hB.wind (U.tr hU) (hs.trans hB.wi) hB.w10⟩
theorem firm_mono {P : List Pers} {L : List Nat} {w v : Nat} (hv : v ≤ w) (hf : firmB P w L = true) : firmB P v L = true := by
  unfold firmB weakF at hf ⊢
  rw [Option.isNone_iff_eq_none, firstFrom_none] at hf ⊢
  intro i h1 h2
  have := hf i h1 h2
  rw [Bool.or_eq_false_iff] at this ⊢
  refine ⟨this.1, ?_⟩
  have q := of_decide_eq_false this.2
  refine decide_eq_false (fun z => q ?_)
  have h3 : tallL P (L.take i) * v / 4 ≤ tallL P (L.take i) * w / 4 := Nat.div_le_div_right (Nat.mul_le_mul_left _ hv)
  omega
theorem cnt_last {f : Nat → Bool} (hf : ∀ w v, v ≤ w → f w = true → f v = true) : ∀ n, (sumN (fun w => if f w then 1 else 0) n = match lastBelow f n with | none => 0 | some k => k + 1)
  | 0 => rfl
  | n + 1 => by
    have ih := cnt_last hf n
    cases hn : f n with
    | false =>
      show sumN _ n + (if f n = true then 1 else 0) = _
      rw [show lastBelow f (n + 1) = lastBelow f n by show (if f n = true then _ else _) = _; rw [hn]; rfl, hn, ih]
      rfl
    | true =>
      show sumN _ n + (if f n = true then 1 else 0) = _
      rw [show lastBelow f (n + 1) = some n by show (if f n = true then _ else _) = _; rw [hn]; rfl, hn]
      have : ∀ k, k ≤ n → sumN (fun w => if f w then 1 else 0) k = k := fun k => by
        induction k with
        | zero => intro _; rfl
        | succ k ihk =>
          intro hk
          show sumN _ k + (if f k = true then 1 else 0) = _
          rw [ihk (by omega), hf n k (by omega) hn]
          rfl
      rw [this n (Nat.le_refl _)]
      rfl
theorem v_chance {was : Int32} {τ : Nat × Nat × Int32 × Int32} (hL : inP σ.1 σ.2.1) : ∀ n w (h : PH), 10 - w = n → w ≤ 10 → ModH h m → MB h m (σ.1, σ.2.1, w, τ) →
    ∃ h1, J mX8_chance (d + 6) 12 [some (.ref m), some (.int was), some (.int (nI (sumN (fun w => if firmB σ.1 w σ.2.1 then 1 else 0) w)))] [] h (some (.int ((100000 : Int32) * nI (sumN (fun w => if firmB σ.1 w σ.2.1 then 1 else 0) 10)))) h1 ∧ Upf (fG m) h h1 ∧ hI h1 m 9 = was := by
  intro n
  induction n with
  | zero =>
    intro w h hn hw hM hB
    have : w = 10 := by omega
    subst this
    refine ⟨_, k_X8_chance_12 hM.g (fun _ => k_X8_chance_49 hM.g) (fun q => absurd (by rw [hB.wi]; exact nI_lt (a := 9) (b := 10) (by omega) (by omega)) q), Upf.set ⟨rfl, rfl⟩, by rw [hI_setI, if_pos ⟨rfl, rfl⟩]⟩
  | succ n ih =>
    intro w h hn hw hM hB
    have U : Upf (fG m) h (setI h m 9 (hI h m 9 + 1)) := Upf.set ⟨rfl, rfl⟩
    have e1 : hI h m 9 + (1 : Int32) = nI (w + 1) := by rw [hB.wi, nI_1]
    obtain ⟨h1, hJ, hU, hs⟩ := ih (w + 1) (setI h m 9 (hI h m 9 + 1)) (by omega) (by omega) (hM.keep U) (hB.wind U (by rw [hI_setI, if_pos ⟨rfl, rfl⟩, e1]) (by omega))
    refine ⟨h1, k_X8_chance_12 hM.g (fun q => absurd q (by rw [hB.wi]; exact nI_nlt (a := 9) (b := w) (by omega) (by omega))) (fun _ => k_X8_chance_21 (u_isStanding hM hB hL) (Or.inl rfl) hM.g (fun q => ?_) (fun q => ?_)), U.tr hU, hs⟩
    · refine k_X8_chance_33 (k_X8_chance_34 hM.g ?_)
      have : sumN (fun w => if firmB σ.1 w σ.2.1 then 1 else 0) (w + 1) = sumN (fun w => if firmB σ.1 w σ.2.1 then 1 else 0) w + 0 := by
        show sumN _ w + (if firmB σ.1 w σ.2.1 = true then 1 else 0) = _
        rw [if_neg (by rw [Bool.not_eq_true]; exact bI_0.mp q)]
      rw [this] at hJ
      rw [show (0 : Int32) = nI 0 from rfl, nI_add]
      exact hJ
    · refine k_X8_chance_29 (k_X8_chance_34 hM.g ?_)
      have : sumN (fun w => if firmB σ.1 w σ.2.1 then 1 else 0) (w + 1) = sumN (fun w => if firmB σ.1 w σ.2.1 then 1 else 0) w + 1 := by
        show sumN _ w + (if firmB σ.1 w σ.2.1 = true then 1 else 0) = _
        rw [if_pos (bI_n0.mp q)]
      rw [this] at hJ
      rw [nI_1]
      exact hJ
/-! falls, turns -/
def fF (m : Nat) : Nat → Nat → Prop := fun i k => i = m ∧ (k = 12 ∨ k = 20)
theorem u_falls (hM : ModH h m) (hB : MB h m σ) (hL : inP σ.1 σ.2.1) : ∃ h1, JMt mX8_falls (some .boolean) (d + 6) [.ref m] h (some (.int (bI (!firmB σ.1 σ.2.2.1 σ.2.1)))) h1 ∧ Upf (fV m) h h1 ∧ MB h1 m (fallW σ) := by
  obtain ⟨c1, c2, c3, c4, c5, c6⟩ := hB.2.2
  unfold fallW
  cases hf : firmB σ.1 σ.2.2.1 σ.2.1 with
  | true =>
    have hs := u_isStanding (d := d) hM hB hL
    rw [hf] at hs
    have U : Upf (fF m) h (setI (setI h m 12 (hI h m 12 + 0)) m 20 (hI (setI h m 12 (hI h m 12 + 0)) m 20)) := (Upf.set ⟨rfl, Or.inl rfl⟩).tr (Upf.set ⟨rfl, Or.inr rfl⟩)
    have e0 : hI h m 12 + (0 : Int32) = hI h m 12 := by rw [c4]; exact Int32.add_zero _
    refine ⟨_, jm mi_X8_falls (Nat.le_of_ble_eq_true rfl) rB rfl (k_X8_falls_0 hs (Or.inl rfl) hM.g (fun _ => k_X8_falls_11 (k_X8_falls_12 hM.g (fun _ => k_X8_falls_26 (k_X8_falls_27 hM.g (fun _ => k_X8_falls_40 hM.g ?_) (fun z => absurd rfl z))) (fun z => absurd rfl z))) (fun z => absurd z (by decide))), U.mono (fun i k q => by unfold fF at q; unfold fV; omega), ?_⟩
    · exact k_X8_falls_44 hM.g
    · rw [if_pos rfl]
      refine ⟨hB.1.of (fun i k q => U.ii (by unfold fF; omega)), ?_, ?_⟩
      · obtain ⟨z1, z2, z3⟩ := hB.2.1
        exact ⟨by rw [hI_setI, if_pos ⟨rfl, rfl⟩, hI_setI, if_neg (fun e => by omega)]; exact z1, z2, fun k hk => by rw [U.ii (by unfold fF; omega)]; exact z3 k hk⟩
      · exact ⟨by rw [U.ii (by unfold fF; omega)]; exact c1, by rw [U.ii (by unfold fF; omega)]; exact c2, by rw [U.ii (by unfold fF; omega)]; exact c3, by rw [hI_setI, if_neg (fun e => by omega), hI_setI, if_pos ⟨rfl, rfl⟩, e0]; exact c4, by rw [U.ii (by unfold fF; omega)]; exact c5, c6⟩
  | false =>
    have hs := u_isStanding (d := d) hM hB hL
    rw [hf] at hs
    have U : Upf (fF m) h (setI (setI h m 12 (hI h m 12 + 1)) m 20 0) := (Upf.set ⟨rfl, Or.inl rfl⟩).tr (Upf.set ⟨rfl, Or.inr rfl⟩)
    refine ⟨_, jm mi_X8_falls (Nat.le_of_ble_eq_true rfl) rB rfl (k_X8_falls_0 hs (Or.inl rfl) hM.g (fun z => absurd rfl z) (fun _ => k_X8_falls_7 (k_X8_falls_12 hM.g (fun z => absurd z (by decide)) (fun _ => k_X8_falls_22 (k_X8_falls_27 hM.g (fun z => absurd z (by decide)) (fun _ => k_X8_falls_36 ?_)))))), U.mono (fun i k q => by unfold fF at q; unfold fV; omega), ?_⟩
    · exact k_X8_falls_44 hM.g
    · rw [if_neg (by decide)]
      refine ⟨hB.1.of (fun i k q => U.ii (by unfold fF; omega)), ?_, ?_⟩
      · exact ⟨by rw [hI_setI, if_pos ⟨rfl, rfl⟩]; rfl, Nat.zero_le _, fun k hk => absurd hk (Nat.not_lt_zero k)⟩
      · exact ⟨by rw [U.ii (by unfold fF; omega)]; exact c1, by rw [U.ii (by unfold fF; omega)]; exact c2, by rw [U.ii (by unfold fF; omega)]; exact c3, by rw [hI_setI, if_neg (fun e => by omega), hI_setI, if_pos ⟨rfl, rfl⟩]; exact congrArg (· + 1) c4, by rw [U.ii (by unfold fF; omega)]; exact c5, c6⟩
def outB (σ : WS) : Bool := decide (0 < σ.2.1.length ∧ (σ.2.1.length = σ.2.2.2.1 ∨ σ.2.1.length = σ.1.length))
theorem u_footComesOut (hM : ModH h m) (hB : MB h m σ) : JMt mX8_footComesOut (some .boolean) d [.ref m] h (some (.int (bI (outB σ)))) h := by
  have l8 := hB.l8
  have n8 := hB.n8
  have m8 := hB.m8
  have no : outB σ = false → J mX8_footComesOut d 33 [some (.ref m)] [] h (some (.int (bI (outB σ)))) h := fun e => by rw [e]; exact k_X8_footComesOut_33 k_X8_footComesOut_34
  have yes : outB σ = true → J mX8_footComesOut d 29 [some (.ref m)] [] h (some (.int (bI (outB σ)))) h := fun e => by rw [e]; exact k_X8_footComesOut_29 k_X8_footComesOut_34
  refine jm mi_X8_footComesOut (Nat.le_of_ble_eq_true rfl) rB rfl (k_X8_footComesOut_0 hM.g (fun q => no ?_) (fun q => k_X8_footComesOut_7 hM.g (fun q2 => yes ?_) (fun q2 => k_X8_footComesOut_18 hM.g (fun q3 => no ?_) (fun q3 => yes ?_))))
  · rw [hB.sz, show (0 : Int32) = nI 0 from rfl, nI_leI (by omega) (by omega)] at q
    exact decide_eq_false (by omega)
  · rw [hB.sz, show (0 : Int32) = nI 0 from rfl, nI_leI (by omega) (by omega)] at q
    rw [hB.sz, hB.mo, nI_eq (by omega) (by omega)] at q2
    exact decide_eq_true (by omega)
  · rw [hB.sz, hB.mo, nI_eq (by omega) (by omega)] at q2
    rw [hB.sz, hB.n, nI_eq (by omega) (by omega)] at q3
    exact decide_eq_false (by omega)
  · rw [hB.sz, show (0 : Int32) = nI 0 from rfl, nI_leI (by omega) (by omega)] at q
    rw [hB.sz, hB.n, nI_eq (by omega) (by omega)] at q3
    exact decide_eq_true (by omega)
end CHM
