/-! lists; who is next; a turn of the reference -/
theorem list_ext {K L : List Nat} (hl : K.length = L.length) (h : ∀ i, i < L.length → K.getD i 0 = L.getD i 0) : K = L := by
  refine List.ext_getElem hl (fun i h1 h2 => ?_)
  have := h i h2
  rw [List.getD_eq_getElem?_getD, List.getD_eq_getElem?_getD, List.getElem?_eq_getElem h1, List.getElem?_eq_getElem h2] at this
  exact this
theorem del_ins {L : List Nat} {k x : Nat} (hk : k ≤ L.length) : delL (insL L k x) k = L := by
  have h1 : (insL L k x).length = L.length + 1 := insL_len hk
  refine list_ext (by rw [delL_len (by omega), h1]; omega) (fun i hi => ?_)
  rw [delL_get (by omega)]
  by_cases h2 : i < k
  · rw [if_pos h2, insL_get hk, if_pos h2]
  · rw [if_neg h2, insL_get hk, if_neg (by omega), if_neg (by omega)]
    rfl
theorem ins_del {L : List Nat} {k : Nat} (hk : k < L.length) : insL (delL L k) k (L.getD k 0) = L := by
  have h1 : (delL L k).length = L.length - 1 := delL_len hk
  refine list_ext (by rw [insL_len (by omega), h1]; omega) (fun i hi => ?_)
  rw [insL_get (by omega)]
  by_cases h2 : i < k
  · rw [if_pos h2, delL_get (by omega), if_pos h2]
  · rw [if_neg h2]
    by_cases h3 : i = k
    · rw [if_pos h3, h3]
    · rw [if_neg h3, delL_get (by omega), if_neg (by omega), show i - 1 + 1 = i by omega]
theorem swap_get {L : List Nat} {a b i : Nat} (ha : a < L.length) (hb : b < L.length) : (swapL L a b).getD i 0 = if i = b then L.getD a 0 else if i = a then L.getD b 0 else L.getD i 0 := by
  unfold swapL
  rw [getD_set (by rw [List.length_set]; exact hb), getD_set ha]
theorem swap_swap {L : List Nat} {a b : Nat} (ha : a < L.length) (hb : b < L.length) : swapL (swapL L a b) a b = L := by
  refine list_ext (by rw [swapL_len, swapL_len]) (fun i hi => ?_)
  rw [swap_get (by rw [swapL_len]; exact ha) (by rw [swapL_len]; exact hb), swap_get ha hb, swap_get ha hb, swap_get ha hb]
  by_cases h1 : i = b
  · rw [if_pos h1, h1]
    by_cases h2 : a = b
    · rw [if_pos h2, h2]
    · rw [if_neg h2, if_pos rfl]
  · rw [if_neg h1]
    by_cases h2 : i = a
    · rw [if_pos h2, if_pos rfl, h2]
    · rw [if_neg h2, if_neg h1, if_neg h2]
theorem nodup_get : ∀ {L : List Nat} {i j : Nat}, L.Nodup → i < L.length → j < L.length → L.getD i 0 = L.getD j 0 → i = j
  | [], _, _, _, h, _, _ => absurd h (Nat.not_lt_zero _)
  | a :: l, 0, 0, _, _, _, _ => rfl
  | a :: l, 0, j + 1, hd, _, hj, e => by
    have e : a = l.getD j 0 := e
    have : l.getD j 0 ∈ l := getD_mem (by simpa using hj)
    rw [← e] at this
    exact absurd this (List.nodup_cons.mp hd).1
  | a :: l, i + 1, 0, hd, hi, _, e => by
    have e : l.getD i 0 = a := e
    have : l.getD i 0 ∈ l := getD_mem (by simpa using hi)
    rw [e] at this
    exact absurd this (List.nodup_cons.mp hd).1
  | a :: l, i + 1, j + 1, hd, hi, hj, e => by
    have e : l.getD i 0 = l.getD j 0 := e
    rw [nodup_get (List.nodup_cons.mp hd).2 (by simpa using hi) (by simpa using hj) e]
theorem crs_get {L : List Nat} {k : Nat} (hd : L.Nodup) (hk : k < L.length) : courseF L (L.getD k 0) 0 = some k := by
  have h1 : (courseF L (L.getD k 0) 0).isSome = true := isSome_mem.mpr (getD_mem hk)
  cases hc : courseF L (L.getD k 0) 0 with
  | none => rw [hc] at h1; cases h1
  | some j =>
    obtain ⟨h2, h3⟩ := courseF_lt hc
    rw [nodup_get hd h2 hk h3]
theorem all_len : ∀ (n : Nat) (L : List Nat), (∀ p, p < n → p ∈ L) → n ≤ L.length
  | 0, _, _ => Nat.zero_le _
  | n + 1, L, h => by
    have h1 := List.length_erase_of_mem (h n (Nat.lt_succ_self n))
    have h2 : 0 < L.length := List.length_pos_of_mem (h n (Nat.lt_succ_self n))
    have h3 := all_len n (L.erase n) (fun p hp => (List.mem_erase_of_ne (by omega)).mpr (h p (by omega)))
    omega
theorem cyc_mod {n p : Nat} (hp : p < n) : cyc n p = (p + 1) % n := by
  unfold cyc
  by_cases h : p + 1 < n
  · rw [if_pos h, Nat.mod_eq_of_lt h]
  · rw [if_neg h, show p + 1 = n by omega, Nat.mod_self]
theorem nextN_all {n : Nat} {L : List Nat} : ∀ f x, x < n → nextN n L f x = none → ∀ i, i < f → (courseF L ((x + i) % n) 0).isSome = true
  | 0, _, _, _, i, hi => absurd hi (Nat.not_lt_zero i)
  | f + 1, x, hx, h, i, hi => by
    unfold nextN at h
    split at h
    · rename_i hs
      cases i with
      | zero => rw [Nat.add_zero, Nat.mod_eq_of_lt hx]; exact hs
      | succ i =>
        have := nextN_all f (cyc n x) (cyc_lt (by omega)) h i (by omega)
        rw [cyc_mod hx, Nat.mod_add_mod, show x + 1 + i = x + (i + 1) by omega] at this
        exact this
    · cases h
theorem nextN_ex {n : Nat} {L : List Nat} {x : Nat} (hx : x < n) (hl : L.length < n) : ∃ k, nextN n L n x = some k := by
  cases h : nextN n L n x with
  | some k => exact ⟨k, rfl⟩
  | none =>
    have ha := nextN_all n x hx h
    have := all_len n L (fun p hp => by
      rcases Nat.lt_or_ge p x with z | z
      · have := ha (p + n - x) (by omega)
        rw [show x + (p + n - x) = p + n by omega, Nat.add_mod_right, Nat.mod_eq_of_lt hp] at this
        exact isSome_mem.mp this
      · have := ha (p - x) (by omega)
        rw [show x + (p - x) = p by omega, Nat.mod_eq_of_lt hp] at this
        exact isSome_mem.mp this)
    omega
theorem room_lt {σ : WS} (ho : okW σ) (hn : 0 < σ.1.length) : (roomL σ.2.2.2.1 σ.1.length σ.2.1).length < σ.1.length := by
  obtain ⟨o1, o2, o3, o4, o5, o6⟩ := ho
  have hl := nodup_len _ _ o2 o1
  unfold roomL
  by_cases h : σ.2.2.2.1 ≤ σ.2.1.length ∨ σ.1.length ≤ σ.2.1.length
  · rw [if_pos h, delL_len (by omega)]; omega
  · rw [if_neg h]; omega
theorem behind_ex {σ : WS} (ho : okW σ) (hn : 0 < σ.1.length) : ∃ k, behindF σ.1.length (roomL σ.2.2.2.1 σ.1.length σ.2.1) = some k ∧ k < σ.1.length := by
  obtain ⟨k, hk⟩ := nextN_ex (L := roomL σ.2.2.2.1 σ.1.length σ.2.1) (startN_lt hn) (room_lt ho hn)
  exact ⟨k, hk, behindF_lt hk⟩
theorem out_iff {σ : WS} (ho : okW σ) (hn : 0 < σ.1.length) : outB σ = true ↔ (σ.2.2.2.1 ≤ σ.2.1.length ∨ σ.1.length ≤ σ.2.1.length) := by
  obtain ⟨o1, o2, o3, o4, o5, o6⟩ := ho
  have hl := nodup_len _ _ o2 o1
  unfold outB
  rw [decide_eq_true_eq]
  omega
section TM
variable {d : Nat} {h : PH} {m : Nat} {σ : WS}
theorem v_next {K : List Nat} {lf ft : Int32} (hM : ModH h m) (hB : MB h m σ) (hL : inP σ.1 σ.2.1) (hn : 0 < σ.1.length) (hft : ∀ x, x < σ.1.length → ((courseF K x 0).isSome = true ↔ (courseF σ.2.1 x 0).isSome = true ∧ nI x ≠ ft)) : ∀ f p k, p < σ.1.length → nextN σ.1.length K f (cyc σ.1.length p) = some k → J mX8_nextNow (d + 3) 57 [some (.ref m), some (.int lf), some (.int (nI p)), some (.int ft)] [] h (some (.int (nI k))) h := by
  have n8 := hB.n8
  intro f
  induction f with
  | zero => intro p k hp hk; cases hk
  | succ f ih =>
    intro p k hp hk
    have hc : cyc σ.1.length p < σ.1.length := cyc_lt hn
    have e : (nI p + (1 : Int32)) - (nI p + (1 : Int32)) / hI h m 13 * hI h m 13 = nI (cyc σ.1.length p) := by rw [hB.n, nI_1, pk_rem (by omega) hn (by omega), cyc_mod hp]
    have hf := hft _ hc
    have h0 : ¬ hI h m 13 = 0 := fun z => by rw [hB.n] at z; have := (nI_eq (b := 0) (by omega) (by omega)).mp z; omega
    unfold nextN at hk
    refine k_X8_nextNow_57 hM.g h0 (by rw [e]; exact u_isIn hM hB hL (by omega)) (Or.inl rfl) (fun q => ?_) (fun q => ?_)
    · have q := bI_0.mp q
      rw [e]
      have hs : (courseF K (cyc σ.1.length p) 0).isSome = false := by
        rw [← Bool.not_eq_true, hf, q]
        exact fun z => by cases z.1
      rw [hs, if_neg (by decide)] at hk
      cases hk
      exact k_X8_nextNow_79
    · have q := bI_n0.mp q
      rw [e]
      refine k_X8_nextNow_74 (fun q2 => ?_) (fun q2 => ?_)
      · rw [hf.mpr ⟨q, q2⟩, if_pos rfl] at hk
        exact ih _ k hc hk
      · have hs : (courseF K (cyc σ.1.length p) 0).isSome = false := by
          rw [← Bool.not_eq_true, hf]
          exact fun z => z.2 q2
        rw [hs, if_neg (by decide)] at hk
        cases hk
        exact k_X8_nextNow_79
theorem u_nextNow {k : Nat} (hM : ModH h m) (hB : MB h m σ) (ho : okW σ) (hn : 0 < σ.1.length) (hk : behindF σ.1.length (roomL σ.2.2.2.1 σ.1.length σ.2.1) = some k) : JMt mX8_nextNow (some .int) (d + 3) [.ref m] h (some (.int (nI k))) h := by
  have n8 := hB.n8
  have l8 := hB.l8
  have oi := out_iff ho hn
  obtain ⟨o1, o2, o3, o4, o5, o6⟩ := ho
  have hlen := nodup_len _ _ o2 o1
  have hout := u_footComesOut (d := d + 2) hM hB
  unfold behindF at hk
  have zero : (roomL σ.2.2.2.1 σ.1.length σ.2.1).length = 0 → k = 0 := fun z => by
    have e : roomL σ.2.2.2.1 σ.1.length σ.2.1 = [] := List.eq_nil_of_length_eq_zero z
    rw [e] at hk
    obtain ⟨n, hn'⟩ : ∃ n, σ.1.length = n + 1 := ⟨σ.1.length - 1, by omega⟩
    rw [hn'] at hk
    have : nextN (n + 1) [] (n + 1) (startN (n + 1) []) = some 0 := rfl
    rw [this] at hk
    cases hk; rfl
  have szp : 0 < σ.2.1.length → hI h m 20 - (1 : Int32) = nI (σ.2.1.length - 1) := fun z => by rw [hB.sz, pred_I z (by omega)]
  cases hb : outB σ with
  | false =>
    rw [hb] at hout
    have hno : ¬ (σ.2.2.2.1 ≤ σ.2.1.length ∨ σ.1.length ≤ σ.2.1.length) := fun z => absurd (oi.mpr z) (by rw [hb]; decide)
    have er : roomL σ.2.2.2.1 σ.1.length σ.2.1 = σ.2.1 := if_neg hno
    rw [er] at hk zero
    refine jm mi_X8_nextNow (Nat.le_of_ble_eq_true rfl) ⟨.int, rfl, rfl⟩ rfl (k_X8_nextNow_0 hout (Or.inl rfl) hM.g (fun _ => k_X8_nextNow_16 hM.g ?_) (fun z => absurd rfl z))
    rw [hB.sz]
    refine k_X8_nextNow_20 (fun q => ?_) (fun q => ?_)
    · have hl0 : 0 < σ.2.1.length := Nat.pos_of_ne_zero (fun e => q (by rw [e]; rfl))
      have hlast : σ.2.1.getD (σ.2.1.length - 1) 0 < σ.1.length := o1 _ (getD_mem (by omega))
      have e5 : hI h (m + 22) (hI h m 20 - (1 : Int32)).toNatClampNeg = nI (σ.2.1.getD (σ.2.1.length - 1) 0) := by rw [szp hl0, nI_clamp (by omega), hB.sk (by omega)]
      refine k_X8_nextNow_27 hM.g hM.r19 hM.g19 (by rw [szp hl0]; exact (vp_in_nI (by omega) (by omega))) hout (Or.inl rfl) (fun _ => k_X8_nextNow_55 (k_X8_nextNow_56 ?_)) (fun z => absurd rfl z)
      rw [e5]
      unfold startN at hk
      rw [if_neg (by omega)] at hk
      exact v_next (K := σ.2.1) hM hB o1 hn (fun x hx => ⟨fun z => ⟨z, nI_nneg1 (by omega)⟩, fun z => z.1⟩) _ _ k hlast hk
    · have hl0 : σ.2.1.length = 0 := (nI_eq (b := 0) (by omega) (by omega)).mp q
      rw [zero hl0]
      exact k_X8_nextNow_25
  | true =>
    rw [hb] at hout
    have er : roomL σ.2.2.2.1 σ.1.length σ.2.1 = delL σ.2.1 0 := if_pos (oi.mp hb)
    have hl0 : 0 < σ.2.1.length := (of_decide_eq_true hb).1
    have hdl : (delL σ.2.1 0).length = σ.2.1.length - 1 := delL_len hl0
    rw [er] at hk zero
    refine jm mi_X8_nextNow (Nat.le_of_ble_eq_true rfl) ⟨.int, rfl, rfl⟩ rfl (k_X8_nextNow_0 hout (Or.inl rfl) hM.g (fun z => absurd z (by decide)) (fun _ => k_X8_nextNow_7 hM.g ?_))
    rw [szp hl0]
    refine k_X8_nextNow_20 (fun q => ?_) (fun q => ?_)
    · have hl1 : σ.2.1.length - 1 ≠ 0 := fun e => q (by rw [e]; rfl)
      have hlast : σ.2.1.getD (σ.2.1.length - 1) 0 < σ.1.length := o1 _ (getD_mem (by omega))
      have e5 : hI h (m + 22) (hI h m 20 - (1 : Int32)).toNatClampNeg = nI (σ.2.1.getD (σ.2.1.length - 1) 0) := by rw [szp hl0, nI_clamp (by omega), hB.sk (by omega)]
      have e0 : hI h (m + 22) (0 : Int32).toNatClampNeg = nI (σ.2.1.getD 0 0) := hB.sk hl0
      have hfo : σ.2.1.getD 0 0 < σ.1.length := o1 _ (getD_mem hl0)
      refine k_X8_nextNow_27 hM.g hM.r19 hM.g19 (by rw [szp hl0]; exact (vp_in_nI (by omega) (by omega))) hout (Or.inl rfl) (fun z => absurd z (by decide)) (fun _ => k_X8_nextNow_46 hM.g hM.r19 hM.g19 (show vp_in (nI 0) 8 from (vp_in_nI (by omega) (by omega))) (k_X8_nextNow_56 ?_))
      rw [e5, e0]
      unfold startN at hk
      rw [hdl, if_neg hl1, delL_get (by omega), if_neg (Nat.not_lt_zero _), show σ.2.1.length - 1 - 1 + 1 = σ.2.1.length - 1 by omega] at hk
      refine v_next (K := delL σ.2.1 0) hM hB o1 hn (fun x hx => ?_) _ _ k hlast hk
      rw [isSome_mem, isSome_mem]
      constructor
      · intro z
        refine ⟨del_sub z, fun e => ?_⟩
        have ex : x = σ.2.1.getD 0 0 := (nI_eq (by omega) (by omega)).mp e
        have h1 : (courseF (delL σ.2.1 0) x 0).isSome = true := isSome_mem.mpr z
        cases hc : courseF (delL σ.2.1 0) x 0 with
        | none => rw [hc] at h1; cases h1
        | some i =>
          obtain ⟨h2, h3⟩ := courseF_lt hc
          rw [delL_get (by omega), if_neg (Nat.not_lt_zero _), ex] at h3
          have := nodup_get o2 (by omega) hl0 h3
          omega
      · rintro ⟨z, ne⟩
        have h1 : (courseF σ.2.1 x 0).isSome = true := isSome_mem.mpr z
        cases hc : courseF σ.2.1 x 0 with
        | none => rw [hc] at h1; cases h1
        | some i =>
          obtain ⟨h2, h3⟩ := courseF_lt hc
          have hi0 : i ≠ 0 := fun e => ne (by rw [← h3, e])
          have : (delL σ.2.1 0).getD (i - 1) 0 = x := by
            rw [delL_get (by omega), if_neg (Nat.not_lt_zero _), show i - 1 + 1 = i by omega]
            exact h3
          rw [← this]
          exact getD_mem (by omega)
    · have hl1 : σ.2.1.length - 1 = 0 := (nI_eq (b := 0) (by omega) (by omega)).mp q
      rw [zero (by omega)]
      exact k_X8_nextNow_25
theorem MB.dayP {h1 : PH} {v : Nat} (hB : MB h m σ) (a : Upf (fun i k => i = m ∧ k = 11) h h1) (hv : hI h1 m 11 = nI v) (h9 : v ≤ 999) : MB h1 m (σ.1, σ.2.1, σ.2.2.1, σ.2.2.2.1, v, σ.2.2.2.2.2) :=
  ⟨hB.1.of (fun i k q => a.ii (by omega)), hB.2.1.of (fun i k q => a.ii (by omega)), by
    obtain ⟨c1, c2, c3, c4, c5, c6, c7, c8⟩ := hB.2.2
    exact ⟨by rw [a.ii (by omega)]; exact c1, by rw [a.ii (by omega)]; exact c2, hv, by rw [a.ii (by omega)]; exact c4, by rw [a.ii (by omega)]; exact c5, c6, c7, h9⟩⟩
theorem u_turns (hM : ModH h m) (hB : MB h m σ) (ho : okW σ) (hn : 0 < σ.1.length) : ∃ h1, JMt mX8_turns (some .boolean) (d + 7) [.ref m] h (some (.int (bI (!firmB σ.1 σ.2.2.1 (turnL σ.2.2.2.1 σ.1.length σ.2.1))))) h1 ∧ Upf (fV m) h h1 ∧ MB h1 m (turnW σ) := by
  have n8 := hB.n8
  have l8 := hB.l8
  have oi := out_iff ho hn
  have hrl := room_lt ho hn
  obtain ⟨k, hk, hkn⟩ := behind_ex ho hn
  have hnx := u_nextNow (d := d + 3) hM hB ho hn hk
  have hout := u_footComesOut (d := d + 6) hM hB
  have eT : turnL σ.2.2.2.1 σ.1.length σ.2.1 = insL (roomL σ.2.2.2.1 σ.1.length σ.2.1) (roomL σ.2.2.2.1 σ.1.length σ.2.1).length k := by unfold turnL; rw [hk]; rfl
  have hin : inP σ.1 (turnL σ.2.2.2.1 σ.1.length σ.2.1) := turnL_in ho.1
  unfold turnW
  -- behind the foot
  have rest : ∀ (h2 : PH) (K : List Nat), K = roomL σ.2.2.2.1 σ.1.length σ.2.1 → ModH h2 m → MB h2 m (σ.1, K, σ.2.2) → ∃ h1, J mX8_turns (d + 7) 18 [some (.ref m), some (.int (nI k))] [] h2 (some (.int (bI (!firmB σ.1 σ.2.2.1 (turnL σ.2.2.2.1 σ.1.length σ.2.1))))) h1 ∧ Upf (fV m) h2 h1 ∧ MB h1 m (fallW (σ.1, turnL σ.2.2.2.1 σ.1.length σ.2.1, σ.2.2.1, σ.2.2.2.1, if σ.2.2.2.2.1 < 999 then σ.2.2.2.2.1 + 1 else 999, σ.2.2.2.2.2.1, σ.2.2.2.2.2.2)) := fun h2 K eK hM2 hB2 => by
    subst eK
    obtain ⟨h3, a1, a2, a3⟩ := u_puts (d := d + 6) (x := k) hM2 hB2 (Nat.le_refl _) (by show (roomL _ _ _).length < 8; omega)
    have a3 : MB h3 m (σ.1, insL (roomL σ.2.2.2.1 σ.1.length σ.2.1) (roomL σ.2.2.2.1 σ.1.length σ.2.1).length k, σ.2.2) := a3
    rw [← eT] at a3
    have hM3 := hM2.keep a2
    have hd := a3.da
    have h999 := a3.d999
    have go : ∀ v : Nat, v = (if σ.2.2.2.2.1 < 999 then σ.2.2.2.2.1 + 1 else 999) → ∃ h1, J mX8_turns (d + 7) 50 [some (.ref m), some (.int (nI k))] [.int (nI v), .ref m] h3 (some (.int (bI (!firmB σ.1 σ.2.2.1 (turnL σ.2.2.2.1 σ.1.length σ.2.1))))) h1 ∧ Upf (fV m) h3 h1 ∧ MB h1 m (fallW (σ.1, turnL σ.2.2.2.1 σ.1.length σ.2.1, σ.2.2.1, σ.2.2.2.1, if σ.2.2.2.2.1 < 999 then σ.2.2.2.2.1 + 1 else 999, σ.2.2.2.2.2.1, σ.2.2.2.2.2.2)) := fun v ev => by
      have U : Upf (fun i k => i = m ∧ k = 11) h3 (setI h3 m 11 (nI v)) := Upf.set ⟨rfl, rfl⟩
      have b0 := a3.dayP U (by rw [hI_setI, if_pos ⟨rfl, rfl⟩]) (v := v) (by rw [ev]; split <;> omega)
      obtain ⟨h1, b1, b2, b3⟩ := u_falls (d := d) (hM3.keep U) b0 hin
      rw [← ev]
      exact ⟨h1, k_X8_turns_50 hM3.g b1 (Or.inl b2.1) hM3.g, (U.mono (fun i k q => by unfold fV; omega)).tr b2, b3⟩
    have hd : hI h3 m 11 = nI σ.2.2.2.2.1 := hd
    have h999 : σ.2.2.2.2.1 ≤ 999 := h999
    by_cases hlt : σ.2.2.2.2.1 < 999
    · obtain ⟨h1, b1, b2, b3⟩ := go (σ.2.2.2.2.1 + 1) (by rw [if_pos hlt])
      refine ⟨h1, k_X8_turns_18 hM2.g (by rw [hB2.sz]; exact a1) (Or.inl a2.1) hM3.g (fun q => absurd q (by rw [hd]; exact nI_ge (a := σ.2.2.2.2.1) (b := 999) hlt (by omega))) (fun _ => k_X8_turns_38 hM3.g ?_), (a2.mono (fun i k => fPV)).tr b2, b3⟩
      rw [hd, nI_1]
      exact b1
    · obtain ⟨h1, b1, b2, b3⟩ := go 999 (by rw [if_neg hlt])
      exact ⟨h1, k_X8_turns_18 hM2.g (by rw [hB2.sz]; exact a1) (Or.inl a2.1) hM3.g (fun _ => k_X8_turns_47 b1) (fun q => absurd (by rw [hd]; exact nI_le (a := 999) (b := σ.2.2.2.2.1) (by omega) (by omega)) q), (a2.mono (fun i k => fPV)).tr b2, b3⟩
  cases hb : outB σ with
  | false =>
    rw [hb] at hout
    obtain ⟨h1, b1, b2, b3⟩ := rest h σ.2.1 (if_neg (fun z => absurd (oi.mpr z) (by rw [hb]; decide))).symm hM hB
    exact ⟨h1, jm mi_X8_turns (Nat.le_of_ble_eq_true rfl) rB rfl (k_X8_turns_0 hnx (Or.inl rfl) hM.g hout (Or.inl rfl) hM.g (fun _ => b1) (fun z => absurd rfl z)), b2, b3⟩
  | true =>
    rw [hb] at hout
    have hl0 : 0 < σ.2.1.length := (of_decide_eq_true hb).1
    obtain ⟨h2, a1, a2, a3⟩ := u_takes (d := d + 6) hM hB hl0
    obtain ⟨h1, b1, b2, b3⟩ := rest h2 (delL σ.2.1 0) (if_pos (oi.mp hb)).symm (hM.keep a2) a3
    exact ⟨h1, jm mi_X8_turns (Nat.le_of_ble_eq_true rfl) rB rfl (k_X8_turns_0 hnx (Or.inl rfl) hM.g hout (Or.inl rfl) hM.g (fun z => absurd z (by decide)) (fun _ => k_X8_turns_12 a1 (Or.inl a2.1) hM.g b1)), (a2.mono (fun i k => fPV)).tr b2, b3⟩
theorem u_standsWith {p : Nat} (hM : ModH h m) (hB : MB h m σ) (hL : inP σ.1 σ.2.1) (hp : p < σ.1.length) (hl : σ.2.1.length < 8) : ∃ h1, JMt mX8_standsWith (some .boolean) (d + 6) [.ref m, .int (nI p)] h (some (.int (bI (firmB σ.1 σ.2.2.1 (insL σ.2.1 σ.2.1.length p))))) h1 ∧ Upf (fV m) h h1 ∧ MB h1 m σ := by
  obtain ⟨h1, a1, a2, a3⟩ := u_puts (d := d + 5) (x := p) hM hB (Nat.le_refl _) hl
  have hM1 := hM.keep a2
  have hi : (insL σ.2.1 σ.2.1.length p).length = σ.2.1.length + 1 := insL_len (Nat.le_refl _)
  have s1 := u_isStanding (d := d) hM1 a3 (insL_in hL hp)
  have sz1 : hI h1 m 20 - (1 : Int32) = nI σ.2.1.length := by rw [a3.sz, hi]; exact nI_pred _
  obtain ⟨h2, b1, b2, b3⟩ := u_takes (d := d + 5) (k := σ.2.1.length) hM1 a3 (by show _ < (insL σ.2.1 σ.2.1.length p).length; omega)
  have b3 : MB h2 m (σ.1, delL (insL σ.2.1 σ.2.1.length p) σ.2.1.length, σ.2.2) := b3
  rw [del_ins (Nat.le_refl _)] at b3
  exact ⟨h2, jm mi_X8_standsWith (Nat.le_of_ble_eq_true rfl) rB rfl (k_X8_standsWith_0 hM.g (by rw [hB.sz]; exact a1) (Or.inl a2.1) s1 (Or.inl rfl) hM1.g hM1.g (by rw [sz1]; exact b1) (Or.inl b2.1)), (a2.tr b2).mono (fun i k => fPV), b3⟩
theorem u_galeWith {p : Nat} (hM : ModH h m) (hB : MB h m σ) (hL : inP σ.1 σ.2.1) (hp : p < σ.1.length) (hl : σ.2.1.length < 8) : ∃ h1, JMt mX8_galeWith (some .int) (d + 7) [.ref m, .int (nI p)] h (some (.int (oI (galeF σ.1 (insL σ.2.1 σ.2.1.length p))))) h1 ∧ Upf (fV m) h h1 ∧ MB h1 m σ := by
  obtain ⟨h1, a1, a2, a3⟩ := u_puts (d := d + 6) (x := p) hM hB (Nat.le_refl _) hl
  have hM1 := hM.keep a2
  have hi : (insL σ.2.1 σ.2.1.length p).length = σ.2.1.length + 1 := insL_len (Nat.le_refl _)
  obtain ⟨h2, g1, g2, g3⟩ := u_galeNow (d := d) hM1 a3 (insL_in hL hp)
  have hM2 := hM1.keep g2
  have sz1 : hI h2 m 20 - (1 : Int32) = nI σ.2.1.length := by rw [g3.sz, hi]; exact nI_pred _
  obtain ⟨h3, b1, b2, b3⟩ := u_takes (d := d + 6) (k := σ.2.1.length) hM2 g3 (by show _ < (insL σ.2.1 σ.2.1.length p).length; omega)
  have b3 : MB h3 m (σ.1, delL (insL σ.2.1 σ.2.1.length p) σ.2.1.length, σ.2.2) := b3
  rw [del_ins (Nat.le_refl _)] at b3
  exact ⟨h3, jm mi_X8_galeWith (Nat.le_of_ble_eq_true rfl) ⟨.int, rfl, rfl⟩ rfl (k_X8_galeWith_0 hM.g (by rw [hB.sz]; exact a1) (Or.inl a2.1) g1 (Or.inl g2.1) hM1.g hM2.g (by rw [sz1]; exact b1) (Or.inl b2.1)), ((a2.mono (fun i k => fPV)).tr (g2.mono (fun i k => fGV))).tr (b2.mono (fun i k => fPV)), b3⟩
end TM
