/-! the World -/
/-- people, tower, wind, most, day, fallen, seed -/
abbrev WS : Type := List Pers × List Nat × Nat × Nat × Nat × Int32 × Int32
def WorldS (h : PH) (w : Nat) (σ : WS) : Prop := hG h w = (6, 7) ∧ hR h w 0 = some (w + 1) ∧ hR h w 1 = some (w + 3) ∧ CrowdS h (w + 1) (w + 2) σ.1 ∧ PileS h (w + 3) (w + 1) (w + 4) σ.2.1 ∧ hI h w 2 = nI σ.2.2.1 ∧ hI h w 3 = nI σ.2.2.2.1 ∧ hI h w 4 = nI σ.2.2.2.2.1 ∧ hI h w 5 = σ.2.2.2.2.2.1 ∧ hI h w 6 = σ.2.2.2.2.2.2
def okW (σ : WS) : Prop := inP σ.1 σ.2.1 ∧ σ.2.1.Nodup ∧ σ.2.1.length ≤ σ.2.2.2.1 ∧ σ.2.2.1 ≤ 9 ∧ (1 ≤ σ.2.2.2.1 ∧ σ.2.2.2.1 ≤ 8) ∧ σ.2.2.2.2.1 ≤ 999
def inW (w : Nat) : Nat → Prop := fun i => w ≤ i ∧ i < w + 5
theorem WorldS.keep {S : Nat → Prop} {h h1 : PH} {w : Nat} {σ : WS} (hW : WorldS h w σ) (a : Upd S h h1) (hS : ∀ i, inW w i → ¬ S i) : WorldS h1 w σ := by
  obtain ⟨w1, w2, w3, w4, w5, w6, w7, w8, w9, w10⟩ := hW
  have e := a.2.2.2.2.2 w (hS w ⟨by omega, by omega⟩)
  refine ⟨by rw [a.gg]; exact w1, by rw [a.rr]; exact w2, by rw [a.rr]; exact w3, w4.keep a (hS _ ⟨by omega, by omega⟩) (hS _ ⟨by omega, by omega⟩), w5.keep a (hS _ ⟨by omega, by omega⟩) (hS _ ⟨by omega, by omega⟩), ?_, ?_, ?_, ?_, ?_⟩
  · rw [e]; exact w6
  · rw [e]; exact w7
  · rw [e]; exact w8
  · rw [e]; exact w9
  · rw [e]; exact w10
/-- one number of the world is laid -/
theorem WorldS.put {h : PH} {w k : Nat} {v : Int32} {σ τ : WS} (hW : WorldS h w σ) (hP : τ.1 = σ.1) (hL : τ.2.1 = σ.2.1) (e2 : nI τ.2.2.1 = if 2 = k then v else nI σ.2.2.1) (e3 : nI τ.2.2.2.1 = if 3 = k then v else nI σ.2.2.2.1) (e4 : nI τ.2.2.2.2.1 = if 4 = k then v else nI σ.2.2.2.2.1) (e5 : τ.2.2.2.2.2.1 = if 5 = k then v else σ.2.2.2.2.2.1) (e6 : τ.2.2.2.2.2.2 = if 6 = k then v else σ.2.2.2.2.2.2) : WorldS (setI h w k v) w τ := by
  obtain ⟨w1, w2, w3, w4, w5, w6, w7, w8, w9, w10⟩ := hW
  have U : Upd (fun i => i = w) h (setI h w k v) := Upd.set rfl
  refine ⟨w1, w2, w3, by rw [hP]; exact w4.keep U (by omega) (by omega), by rw [hL]; exact w5.keep U (by omega) (by omega), ?_, ?_, ?_, ?_, ?_⟩
  · rw [hI_setI, e2]; by_cases z : 2 = k
    · rw [if_pos ⟨rfl, z⟩, if_pos z]
    · rw [if_neg (fun y => z y.2), if_neg z]; exact w6
  · rw [hI_setI, e3]; by_cases z : 3 = k
    · rw [if_pos ⟨rfl, z⟩, if_pos z]
    · rw [if_neg (fun y => z y.2), if_neg z]; exact w7
  · rw [hI_setI, e4]; by_cases z : 4 = k
    · rw [if_pos ⟨rfl, z⟩, if_pos z]
    · rw [if_neg (fun y => z y.2), if_neg z]; exact w8
  · rw [hI_setI, e5]; by_cases z : 5 = k
    · rw [if_pos ⟨rfl, z⟩, if_pos z]
    · rw [if_neg (fun y => z y.2), if_neg z]; exact w9
  · rw [hI_setI, e6]; by_cases z : 6 = k
    · rw [if_pos ⟨rfl, z⟩, if_pos z]
    · rw [if_neg (fun y => z y.2), if_neg z]; exact w10
/-- what may be told -/
def tellB (len : Nat) (what v : Int) : Bool := decide ((what = 0 ∧ 0 ≤ v ∧ v ≤ 9) ∨ (what = 1 ∧ 1 ≤ v ∧ (len : Int) ≤ v ∧ v ≤ 8) ∨ (what = 2 ∧ 0 ≤ v ∧ v ≤ 999))
/-- the wind that a seed draws -/
def seedF (s : Int32) : Int32 := s * (1103515245 : Int32) + (12345 : Int32)
def highF (s : Int32) : Int32 := (s.toUInt32 >>> ((16 : Int32).toUInt32 &&& Int32.toUInt32 31)).toInt32
theorem highF_nI (s : Int32) : ∃ m, m < 65536 ∧ highF s = nI m := by
  have e : ((16 : Int32).toUInt32 &&& Int32.toUInt32 31) = 16 := by decide
  refine ⟨(s.toUInt32 >>> 16).toNat, ?_, ?_⟩
  · have h1 : s.toUInt32.toNat < 2 ^ 32 := s.toUInt32.toNat_lt
    have h2 : (s.toUInt32 >>> 16).toNat = s.toUInt32.toNat >>> 16 := by rw [UInt32.toNat_shiftRight]; rfl
    rw [h2, Nat.shiftRight_eq_div_pow]
    omega
  · unfold highF
    rw [e]
    show (s.toUInt32 >>> 16).toInt32 = Int32.ofNat _
    conv => lhs; rw [← UInt32.ofNat_toNat (x := s.toUInt32 >>> 16)]
    rfl
theorem draw_nI (s : Int32) : ∃ k, k < 10 ∧ highF s - highF s / (10 : Int32) * (10 : Int32) = nI k := by
  obtain ⟨m, h1, h2⟩ := highF_nI s
  refine ⟨m % 10, by omega, ?_⟩
  rw [h2, show (10 : Int32) = nI 10 from rfl, pk_rem (by omega) (by omega) (by omega)]
/-- if it doesn't stand nobody is in it then -/
def fallW (σ : WS) : WS := if firmB σ.1 σ.2.2.1 σ.2.1 then σ else (σ.1, [], σ.2.2.1, σ.2.2.2.1, σ.2.2.2.2.1, σ.2.2.2.2.2.1 + 1, σ.2.2.2.2.2.2)
def turnW (σ : WS) : WS := fallW (σ.1, turnL σ.2.2.2.1 σ.1.length σ.2.1, σ.2.2.1, σ.2.2.2.1, if σ.2.2.2.2.1 < 999 then σ.2.2.2.2.1 + 1 else 999, σ.2.2.2.2.2.1, σ.2.2.2.2.2.2)
theorem Upd.st {S : Nat → Prop} {h h1 : PH} {i k : Nat} {v : Int32} (a : Upd S h h1) (hi : S i) : Upd S h (setI h1 i k v) := a.tr (Upd.set hi)
theorem n999 : (999 : Int32) = nI 999 := rfl
theorem WorldS.put6 {h : PH} {w : Nat} {v : Int32} {σ : WS} (hW : WorldS h w σ) : WorldS (setI h w 6 v) w (σ.1, σ.2.1, σ.2.2.1, σ.2.2.2.1, σ.2.2.2.2.1, σ.2.2.2.2.2.1, v) := hW.put rfl rfl rfl rfl rfl rfl rfl
section WO
variable {d : Nat} {h : PH} {w : Nat} {σ : WS}
theorem t_worldTake {v : Nat} {τ : WS} (hW : WorldS h w σ) (hV : WorldS h v τ) (hd : w + 5 ≤ v ∨ v + 5 ≤ w) : ∃ h', JMt mX6_takeFrom none (d + 2) [.ref w, .ref v] h none h' ∧ Upd (inW w) h h' ∧ WorldS h' w τ := by
  obtain ⟨w1, w2, w3, w4, w5, w6, w7, w8, w9, w10⟩ := hW
  obtain ⟨v1, v2, v3, v4, v5, v6, v7, v8, v9, v10⟩ := hV
  obtain ⟨h1, hM1, hU1, hC1⟩ := t_crowdTake (d := d) w4 v4 (by omega) (by omega)
  have m1 : ∀ i, pc1 (w + 1) (w + 2) i → inW w i := fun i z => by unfold pc1 at z; unfold inW; omega
  have V5 := v5.keep hU1 (by unfold pc1; omega) (by unfold pc1; omega)
  have W5 := w5.keep hU1 (by unfold pc1; omega) (by unfold pc1; omega)
  obtain ⟨h2, hM2, hU2, hP2⟩ := t_pileTake (d := d) W5 V5 (by omega) (by omega)
  have m2 : ∀ i, pc2 (w + 3) (w + 4) i → inW w i := fun i z => by unfold pc2 at z; unfold inW; omega
  have U2 : Upd (inW w) h h2 := (hU1.mono m1).tr (hU2.mono m2)
  have ev : hI h2 v = hI h v := U2.2.2.2.2.2 v (by unfold inW; omega)
  have hC2 := hC1.keep hU2 (by unfold pc2; omega) (by unfold pc2; omega)
  have hvw : ¬ v = w := by omega
  refine ⟨_, jm mi_X6_takeFrom (Nat.le_of_ble_eq_true rfl) rfl rfl (k_X6_takeFrom_0 w1 w2 v1 v2 hM1 (Or.inl hU1.1) w4.1 (by rw [hU1.gg]; exact w1) (by rw [hU1.rr]; exact w3) (by rw [hU1.gg]; exact v1) (by rw [hU1.rr]; exact v3) hM2 (Or.inl hU2.1) W5.1 (by rw [U2.gg]; exact v1) (by rw [U2.gg]; exact w1)), ?_, ?_⟩
  · exact ((((U2.tr (Upd.set ⟨by omega, by omega⟩)).tr (Upd.set ⟨by omega, by omega⟩)).tr (Upd.set ⟨by omega, by omega⟩)).tr (Upd.set ⟨by omega, by omega⟩)).tr (Upd.set ⟨by omega, by omega⟩)
  · generalize hz2 : setI h2 w 2 (hI h2 v 2) = g2
    generalize hz3 : setI g2 w 3 (hI g2 v 3) = g3
    generalize hz4 : setI g3 w 4 (hI g3 v 4) = g4
    generalize hz5 : setI g4 w 5 (hI g4 v 5) = g5
    generalize hz6 : setI g5 w 6 (hI g5 v 6) = g6
    have a2 : hI g2 v = hI h v := by rw [← hz2, ← ev]; exact (Upd.set (S := fun i => i = w) rfl).2.2.2.2.2 v hvw
    have a3 : hI g3 v = hI h v := by rw [← hz3, ← a2]; exact (Upd.set (S := fun i => i = w) rfl).2.2.2.2.2 v hvw
    have a4 : hI g4 v = hI h v := by rw [← hz4, ← a3]; exact (Upd.set (S := fun i => i = w) rfl).2.2.2.2.2 v hvw
    have a5 : hI g5 v = hI h v := by rw [← hz5, ← a4]; exact (Upd.set (S := fun i => i = w) rfl).2.2.2.2.2 v hvw
    have Uw : Upd (fun i => i = w) h2 g6 := by rw [← hz6, ← hz5, ← hz4, ← hz3, ← hz2]; exact (((((Upd.rf (S := fun i => i = w)).st rfl).st rfl).st rfl).st rfl).st rfl
    have e6 : hI g6 w 6 = hI h v 6 := by rw [← hz6, hI_setI, if_pos ⟨rfl, rfl⟩, a5]
    have e5 : hI g6 w 5 = hI h v 5 := by rw [← hz6, hI_setI, if_neg (fun z => by omega), ← hz5, hI_setI, if_pos ⟨rfl, rfl⟩, a4]
    have e4 : hI g6 w 4 = hI h v 4 := by rw [← hz6, hI_setI, if_neg (fun z => by omega), ← hz5, hI_setI, if_neg (fun z => by omega), ← hz4, hI_setI, if_pos ⟨rfl, rfl⟩, a3]
    have e3 : hI g6 w 3 = hI h v 3 := by rw [← hz6, hI_setI, if_neg (fun z => by omega), ← hz5, hI_setI, if_neg (fun z => by omega), ← hz4, hI_setI, if_neg (fun z => by omega), ← hz3, hI_setI, if_pos ⟨rfl, rfl⟩, a2]
    have e2 : hI g6 w 2 = hI h v 2 := by rw [← hz6, hI_setI, if_neg (fun z => by omega), ← hz5, hI_setI, if_neg (fun z => by omega), ← hz4, hI_setI, if_neg (fun z => by omega), ← hz3, hI_setI, if_neg (fun z => by omega), ← hz2, hI_setI, if_pos ⟨rfl, rfl⟩, ev]
    exact ⟨by rw [Uw.gg, U2.gg]; exact w1, by rw [Uw.rr, U2.rr]; exact w2, by rw [Uw.rr, U2.rr]; exact w3, hC2.keep Uw (by omega) (by omega), hP2.keep Uw (by omega) (by omega), by rw [e2]; exact v6, by rw [e3]; exact v7, by rw [e4]; exact v8, by rw [e5]; exact v9, by rw [e6]; exact v10⟩
theorem t_mayTell {what v : Int32} (hW : WorldS h w σ) : JMt mX6_mayTell (some .boolean) (d + 1) [.ref w, .int what, .int v] h (some (.int (bI (tellB σ.2.1.length what.toInt v.toInt)))) h := by
  obtain ⟨w1, w2, w3, w4, w5, w6, w7, w8, w9, w10⟩ := hW
  have hlen := w5.2.2.2.2.2.1
  have hsz := w5.2.2.2.2.1
  refine jm mi_X6_mayTell (Nat.le_of_ble_eq_true rfl) ⟨.boolean, rfl, by cases tellB σ.2.1.length what.toInt v.toInt <;> rfl⟩ rfl ?_
  have no : tellB σ.2.1.length what.toInt v.toInt = false → J mX6_mayTell (d + 1) 51 [some (.ref w), some (.int what), some (.int v)] [] h (some (.int (bI (tellB σ.2.1.length what.toInt v.toInt)))) h := fun e => by rw [e]; exact k_X6_mayTell_51 k_X6_mayTell_52
  have yes : tellB σ.2.1.length what.toInt v.toInt = true → J mX6_mayTell (d + 1) 47 [some (.ref w), some (.int what), some (.int v)] [] h (some (.int (bI (tellB σ.2.1.length what.toInt v.toInt)))) h := fun e => by rw [e]; exact k_X6_mayTell_47 k_X6_mayTell_52
  have lit : ∀ (z : Int32) (n : Nat), z = nI n → n < 2 ^ 31 → z.toInt = n := fun z n e hn => by rw [e, nI_toInt hn]
  have z0 : (0 : Int32).toInt = 0 := rfl
  refine k_X6_mayTell_0 (fun q => no ?_) (fun q0 => k_X6_mayTell_4 (fun q => no ?_) (fun q3 => ?_))
  · rw [fa_lt] at q
    unfold tellB
    rw [decide_eq_false_iff_not]
    omega
  · rw [fa_le, lit 3 3 rfl (by omega)] at q
    unfold tellB
    rw [decide_eq_false_iff_not]
    omega
  · rw [fa_lt, z0] at q0
    rw [fa_le, lit 3 3 rfl (by omega)] at q3
    have hw : what.toInt = 0 ∨ what.toInt = 1 ∨ what.toInt = 2 := by omega
    have hk : ∃ k, k < 3 ∧ what = nI k := by
      rcases hw with e | e | e
      · exact ⟨0, by omega, Int32.toInt_inj.mp (by rw [e]; rfl)⟩
      · exact ⟨1, by omega, Int32.toInt_inj.mp (by rw [e]; rfl)⟩
      · exact ⟨2, by omega, Int32.toInt_inj.mp (by rw [e]; rfl)⟩
    obtain ⟨k, hk3, rfl⟩ := hk
    have ek : (nI k).toInt = k := nI_toInt (by omega)
    have hk' : k = 0 ∨ k = 1 ∨ k = 2 := by omega
    refine k_X6_mayTell_9 (t_pickC (i := 3) (k := k) (by omega) (by show k < 3; omega) (by decide)) (Or.inl rfl) (fun q => no ?_) (fun q4 => k_X6_mayTell_20 (t_pickC (i := 4) (k := k) (by omega) (by show k < 3; omega) (by decide)) (Or.inl rfl) (fun q => no ?_) (fun q5 => k_X6_mayTell_31 (fun q => yes ?_) (fun q => ?_)))
    · rw [fa_lt] at q
      unfold tellB
      rw [decide_eq_false_iff_not, ek]
      rcases hk' with rfl | rfl | rfl
      · rw [show (cget 3 0).toInt = 0 from rfl] at q; omega
      · rw [show (cget 3 1).toInt = 1 from rfl] at q; omega
      · rw [show (cget 3 2).toInt = 0 from rfl] at q; omega
    · rw [fa_lt] at q
      unfold tellB
      rw [decide_eq_false_iff_not, ek]
      rcases hk' with rfl | rfl | rfl
      · rw [show (cget 4 0).toInt = 9 from rfl] at q; omega
      · rw [show (cget 4 1).toInt = 8 from rfl] at q; omega
      · rw [show (cget 4 2).toInt = 999 from rfl] at q; omega
    · rw [fa_lt] at q4 q5
      unfold tellB
      rw [decide_eq_true_iff, ek]
      rcases hk' with rfl | rfl | rfl
      · rw [show (cget 3 0).toInt = 0 from rfl] at q4; rw [show (cget 4 0).toInt = 9 from rfl] at q5; omega
      · exact absurd rfl q
      · rw [show (cget 3 2).toInt = 0 from rfl] at q4; rw [show (cget 4 2).toInt = 999 from rfl] at q5; omega
    · have k1 : k = 1 := (nI_eq (by omega) (by omega)).mp q
      subst k1
      rw [fa_lt] at q4 q5
      rw [show (cget 3 1).toInt = 1 from rfl] at q4
      rw [show (cget 4 1).toInt = 8 from rfl] at q5
      refine k_X6_mayTell_36 w1 w3 w5.1 (fun q6 => no ?_) (fun q6 => yes ?_)
      · rw [hsz, fa_lt, nI_toInt (by omega)] at q6
        unfold tellB
        rw [decide_eq_false_iff_not, ek]
        omega
      · rw [hsz, fa_lt, nI_toInt (by omega)] at q6
        unfold tellB
        rw [decide_eq_true_iff, ek]
        omega
theorem t_setting {k : Nat} (hW : WorldS h w σ) (hk : k < 3) : JMt mX6_setting (some .int) d [.ref w, .int (nI k)] h (some (.int (nI (if k = 0 then σ.2.2.1 else if k = 1 then σ.2.2.2.1 else σ.2.2.2.2.1)))) h := by
  obtain ⟨w1, w2, w3, w4, w5, w6, w7, w8, w9, w10⟩ := hW
  have hk' : k = 0 ∨ k = 1 ∨ k = 2 := by omega
  rcases hk' with rfl | rfl | rfl
  · refine jm mi_X6_setting (Nat.le_of_ble_eq_true rfl) ⟨.int, rfl, rfl⟩ rfl (k_X6_setting_0 (fun q => absurd rfl q) (fun _ => ?_))
    have := k_X6_setting_4 (d := d) (a1 := nI 0) w1
    rw [w6] at this
    exact this
  · refine jm mi_X6_setting (Nat.le_of_ble_eq_true rfl) ⟨.int, rfl, rfl⟩ rfl (k_X6_setting_0 (fun _ => k_X6_setting_9 (fun q => absurd rfl q) (fun _ => k_X6_setting_14 w1 ?_)) (fun q => absurd q (by decide)))
    rw [w7]
    exact k_X6_setting_25
  · refine jm mi_X6_setting (Nat.le_of_ble_eq_true rfl) ⟨.int, rfl, rfl⟩ rfl (k_X6_setting_0 (fun _ => k_X6_setting_9 (fun _ => k_X6_setting_21 w1 ?_) (fun q => absurd q (by decide))) (fun q => absurd q (by decide)))
    rw [w8]
    exact k_X6_setting_25
def setW (σ : WS) (k v : Nat) : WS := (σ.1, σ.2.1, if k = 0 then v else σ.2.2.1, if k = 1 then v else σ.2.2.2.1, if k = 2 then v else σ.2.2.2.2.1, σ.2.2.2.2.2.1, σ.2.2.2.2.2.2)
theorem t_changeSetting {k v : Nat} (hW : WorldS h w σ) (hk : k < 3) : ∃ h', JMt mX6_changeSetting none d [.ref w, .int (nI k), .int (nI v)] h none h' ∧ Upd (inW w) h h' ∧ WorldS h' w (setW σ k v) := by
  have w1 := hW.1
  have hk' : k = 0 ∨ k = 1 ∨ k = 2 := by omega
  rcases hk' with rfl | rfl | rfl
  · exact ⟨_, jm mi_X6_changeSetting (Nat.le_of_ble_eq_true rfl) rfl rfl (k_X6_changeSetting_0 (fun q => absurd rfl q) (fun _ => k_X6_changeSetting_4 w1 k_X6_changeSetting_35)), Upd.set ⟨by omega, by omega⟩, hW.put rfl rfl rfl rfl rfl rfl rfl⟩
  · exact ⟨_, jm mi_X6_changeSetting (Nat.le_of_ble_eq_true rfl) rfl rfl (k_X6_changeSetting_0 (fun _ => k_X6_changeSetting_12 (fun q => absurd rfl q) (fun _ => k_X6_changeSetting_17 w1 k_X6_changeSetting_35)) (fun q => absurd q (by decide))), Upd.set ⟨by omega, by omega⟩, hW.put rfl rfl rfl rfl rfl rfl rfl⟩
  · exact ⟨_, jm mi_X6_changeSetting (Nat.le_of_ble_eq_true rfl) rfl rfl (k_X6_changeSetting_0 (fun _ => k_X6_changeSetting_12 (fun _ => k_X6_changeSetting_25 (fun q => absurd rfl q) (fun _ => k_X6_changeSetting_30 w1 k_X6_changeSetting_35)) (fun q => absurd q (by decide))) (fun q => absurd q (by decide))), Upd.set ⟨by omega, by omega⟩, hW.put rfl rfl rfl rfl rfl rfl rfl⟩
theorem t_fellIfWeak (hW : WorldS h w σ) (hk : okW σ) : ∃ h', JMt mX6_fellIfWeak (some .boolean) (d + 4) [.ref w] h (some (.int (bI (!firmB σ.1 σ.2.2.1 σ.2.1)))) h' ∧ Upd (inW w) h h' ∧ WorldS h' w (fallW σ) := by
  have hW0 := hW
  obtain ⟨w1, w2, w3, w4, w5, w6, w7, w8, w9, w10⟩ := hW
  obtain ⟨o1, o2, o3, o4, o5, o6⟩ := hk
  have hF := t_isFirm (d := d) w4 w5 o1 o4
  unfold fallW
  cases hfm : firmB σ.1 σ.2.2.1 σ.2.1 with
  | true =>
    rw [hfm] at hF
    exact ⟨h, jm mi_X6_fellIfWeak (Nat.le_of_ble_eq_true rfl) ⟨.boolean, rfl, rfl⟩ rfl (k_X6_fellIfWeak_0 w1 w3 (by rw [w6]; exact hF) (Or.inl rfl) w5.1 (fun q => absurd q (by decide)) (fun _ => k_X6_fellIfWeak_14)), Upd.rf, hW0⟩
  | false =>
    rw [hfm] at hF
    obtain ⟨h1, hM, hU, hP⟩ := t_clear (d := d + 3) w5
    have hU' : Upd (inW w) h h1 := hU.mono (fun i z => by unfold pc2 at z; unfold inW; omega)
    have hW1 : WorldS h1 w (σ.1, [], σ.2.2.1, σ.2.2.2.1, σ.2.2.2.2.1, σ.2.2.2.2.2.1, σ.2.2.2.2.2.2) := by
      have e : hI h1 w = hI h w := hU.2.2.2.2.2 w (by unfold pc2; omega)
      refine ⟨by rw [hU.gg]; exact w1, by rw [hU.rr]; exact w2, by rw [hU.rr]; exact w3, w4.keep hU (by unfold pc2; omega) (by unfold pc2; omega), hP, ?_, ?_, ?_, ?_, ?_⟩
      · rw [e]; exact w6
      · rw [e]; exact w7
      · rw [e]; exact w8
      · rw [e]; exact w9
      · rw [e]; exact w10
    have e5 : hI h1 w 5 = σ.2.2.2.2.2.1 := hW1.2.2.2.2.2.2.2.2.1
    have fin := k_X6_fellIfWeak_16 (d := d + 3) w1 w3 hM (Or.inl hU.1) w5.1 (by rw [hU.gg]; exact w1)
    rw [e5] at fin
    exact ⟨_, jm mi_X6_fellIfWeak (Nat.le_of_ble_eq_true rfl) ⟨.boolean, rfl, rfl⟩ rfl (k_X6_fellIfWeak_0 w1 w3 (by rw [w6]; exact hF) (Or.inl rfl) w5.1 (fun _ => fin) (fun q => absurd rfl q)), hU'.tr (Upd.set ⟨by omega, by omega⟩), hW1.put rfl rfl rfl rfl rfl rfl rfl⟩
theorem t_turn (hW : WorldS h w σ) (hk : okW σ) : ∃ h', JMt mX6_turn none (d + 5) [.ref w] h none h' ∧ Upd (inW w) h h' ∧ WorldS h' w (turnW σ) := by
  obtain ⟨w1, w2, w3, w4, w5, w6, w7, w8, w9, w10⟩ := hW
  obtain ⟨o1, o2, o3, o4, o5, o6⟩ := hk
  obtain ⟨h1, hM, hU, hP⟩ := t_fellByTurn (d := d) w4 w5 o1 o5.2 o4 (by unfold pc2; omega) (by unfold pc2; omega)
  have hU' : Upd (inW w) h h1 := hU.mono (fun i z => by unfold pc2 at z; unfold inW; omega)
  have e : hI h1 w = hI h w := hU.2.2.2.2.2 w (by unfold pc2; omega)
  have hW1 : WorldS h1 w (σ.1, if firmB σ.1 σ.2.2.1 (turnL σ.2.2.2.1 σ.1.length σ.2.1) then turnL σ.2.2.2.1 σ.1.length σ.2.1 else [], σ.2.2.1, σ.2.2.2.1, σ.2.2.2.2.1, σ.2.2.2.2.2.1, σ.2.2.2.2.2.2) := by
    refine ⟨by rw [hU.gg]; exact w1, by rw [hU.rr]; exact w2, by rw [hU.rr]; exact w3, w4.keep hU (by unfold pc2; omega) (by unfold pc2; omega), hP, ?_, ?_, ?_, ?_, ?_⟩
    · rw [e]; exact w6
    · rw [e]; exact w7
    · rw [e]; exact w8
    · rw [e]; exact w9
    · rw [e]; exact w10
  have ed : ∀ x : Int32, x = nI σ.2.2.2.2.1 → (if (999 : Int32) < x + (1 : Int32) then (999 : Int32) else x + (1 : Int32)) = nI (if σ.2.2.2.2.1 < 999 then σ.2.2.2.2.1 + 1 else 999) := fun x hx => by
    rw [hx, nI_1, n999]
    by_cases z : σ.2.2.2.2.1 < 999
    · rw [if_pos z, if_neg (nI_nlt (a := 999) (b := σ.2.2.2.2.1 + 1) (by omega) (by omega))]
    · rw [if_neg z, if_pos (nI_lt (a := 999) (b := σ.2.2.2.2.1 + 1) (by omega) (by omega))]
  unfold turnW fallW
  dsimp only
  cases hfm : firmB σ.1 σ.2.2.1 (turnL σ.2.2.2.1 σ.1.length σ.2.1) with
  | true =>
    rw [hfm] at hM hW1
    have fin := k_X6_turn_28 (d := d + 4) hW1.1
    rw [ed _ hW1.2.2.2.2.2.2.2.1] at fin
    exact ⟨_, jm mi_X6_turn (Nat.le_of_ble_eq_true rfl) rfl rfl (k_X6_turn_0 w1 w3 (by rw [w6, w7]; exact hM) (Or.inl hU.1) w5.1 (fun _ => fin) (fun q => absurd rfl q)), hU'.tr (Upd.set ⟨by omega, by omega⟩), hW1.put rfl rfl rfl rfl rfl rfl rfl⟩
  | false =>
    rw [hfm] at hM hW1
    have hW2 : WorldS (setI h1 w 5 (hI h1 w 5 + (1 : Int32))) w (σ.1, [], σ.2.2.1, σ.2.2.2.1, σ.2.2.2.2.1, σ.2.2.2.2.2.1 + 1, σ.2.2.2.2.2.2) := hW1.put rfl rfl rfl rfl rfl (by rw [hW1.2.2.2.2.2.2.2.2.1]; rfl) rfl
    have fin := k_X6_turn_28 (d := d + 4) hW2.1
    rw [ed _ hW2.2.2.2.2.2.2.2.1] at fin
    exact ⟨_, jm mi_X6_turn (Nat.le_of_ble_eq_true rfl) rfl rfl (k_X6_turn_0 w1 w3 (by rw [w6, w7]; exact hM) (Or.inl hU.1) w5.1 (fun q => absurd q (by decide)) (fun _ => k_X6_turn_18 hW1.1 fin)), (hU'.tr (Upd.set ⟨by omega, by omega⟩)).tr (Upd.set ⟨by omega, by omega⟩), hW2.put rfl rfl rfl rfl rfl rfl rfl⟩
theorem t_draw (hW : WorldS h w σ) : ∃ h', JMt mX6_draw (some .int) d [.ref w, .int 10] h (some (.int (highF (seedF σ.2.2.2.2.2.2) - highF (seedF σ.2.2.2.2.2.2) / (10 : Int32) * (10 : Int32)))) h' ∧ Upd (inW w) h h' ∧ WorldS h' w (σ.1, σ.2.1, σ.2.2.1, σ.2.2.2.1, σ.2.2.2.2.1, σ.2.2.2.2.2.1, seedF σ.2.2.2.2.2.2) := by
  have w1 := hW.1
  have w10 := hW.2.2.2.2.2.2.2.2.2
  have hW1 := hW.put6 (v := seedF σ.2.2.2.2.2.2)
  have e0 : hI h w 6 * (1103515245 : Int32) + (12345 : Int32) = seedF σ.2.2.2.2.2.2 := by rw [w10, seedF]
  have e6 := hW1.2.2.2.2.2.2.2.2.2
  refine ⟨_, jm mi_X6_draw (Nat.le_of_ble_eq_true rfl) ⟨.int, rfl, rfl⟩ rfl (k_X6_draw_0 w1 (fun q => absurd q (by decide)) (fun _ => ?_)), Upd.set ⟨by omega, by omega⟩, hW1⟩
  rw [e0]
  refine k_X6_draw_19 hW1.1 (by decide) ?_
  rw [e6]
  exact k_X6_draw_32
end WO
