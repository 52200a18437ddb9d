/-! sets of people as numbers; in how many orders, who comes last, how glad -/
theorem sumN_cong {g g' : Nat → Nat} : ∀ n, (∀ i, i < n → g i = g' i) → sumN g n = sumN g' n
  | 0, _ => rfl
  | n + 1, h => by rw [sumN, sumN, sumN_cong n (fun i hi => h i (by omega)), h n (by omega)]
theorem sumN_one {g g' : Nat → Nat} {k a : Nat} : ∀ n, k < n → g k = g' k + a → (∀ i, i < n → i ≠ k → g i = g' i) → sumN g n = sumN g' n + a
  | 0, h, _, _ => by omega
  | n + 1, h, h1, h2 => by
    rw [sumN, sumN]
    by_cases e : k = n
    · subst e
      rw [h1, sumN_cong k (fun i hi => h2 i (by omega) (by omega))]
      omega
    · rw [sumN_one n (by omega) h1 (fun i hi => h2 i (by omega)), h2 n (by omega) (fun z => e z.symm)]
      omega
theorem sumN_le {g : Nat → Nat} {b : Nat} : ∀ n, (∀ i, i < n → g i ≤ b) → sumN g n ≤ b * n
  | 0, _ => by simp [sumN]
  | n + 1, h => by
    have := sumN_le n (fun i hi => h i (by omega))
    have h2 := h n (by omega)
    rw [sumN, Nat.mul_add]
    omega
theorem sumN_mono {g : Nat → Nat} : ∀ {n m}, n ≤ m → sumN g n ≤ sumN g m
  | n, 0, h => by rw [show n = 0 by omega]; exact Nat.le_refl _
  | n, m + 1, h => by
    by_cases e : n = m + 1
    · rw [e]; exact Nat.le_refl _
    · have := sumN_mono (g := g) (show n ≤ m by omega)
      rw [sumN]; omega
theorem sumN_pos {g : Nat → Nat} : ∀ n, 0 < sumN g n ↔ ∃ i, i < n ∧ 0 < g i
  | 0 => by simp [sumN]
  | n + 1 => by
    rw [sumN]
    constructor
    · intro h
      by_cases e : 0 < g n
      · exact ⟨n, by omega, e⟩
      · obtain ⟨i, h1, h2⟩ := (sumN_pos (g := g) n).mp (by omega)
        exact ⟨i, by omega, h2⟩
    · rintro ⟨i, h1, h2⟩
      by_cases e : i = n
      · rw [e] at h2; omega
      · have := (sumN_pos (g := g) n).mpr ⟨i, by omega, h2⟩
        omega
def mkN (f : Nat → Bool) (n : Nat) : Nat := orN (fun p => if f p then 2 ^ p else 0) n
theorem mkN_bit {f : Nat → Bool} {n p : Nat} : (mkN f n).testBit p = true ↔ p < n ∧ f p = true := by
  unfold mkN
  rw [orN_bit]
  constructor
  · rintro ⟨k, h1, h2⟩
    by_cases e : f k = true
    · rw [if_pos e, Nat.testBit_two_pow] at h2
      have : k = p := by simpa using h2
      subst this
      exact ⟨h1, e⟩
    · rw [if_neg e, Nat.zero_testBit] at h2; cases h2
  · rintro ⟨h1, h2⟩
    exact ⟨p, h1, by rw [if_pos h2, Nat.testBit_two_pow]; simp⟩
theorem mkN_lt {f : Nat → Bool} {n : Nat} : mkN f n < 2 ^ n := by
  apply Nat.lt_pow_two_of_testBit
  intro i hi
  cases h : (mkN f n).testBit i with
  | false => rfl
  | true => have := (mkN_bit.mp h).1; omega
theorem mkN_succ {f : Nat → Bool} {n : Nat} : mkN f (n + 1) = if f n then mkN f n ||| 2 ^ n else mkN f n := by
  unfold mkN
  rw [orN]
  by_cases e : f n = true
  · rw [if_pos e, if_pos e]
  · rw [if_neg e, if_neg e, Nat.or_zero]
theorem mkN_ext {f g : Nat → Bool} {n : Nat} (h : ∀ p, p < n → f p = g p) : mkN f n = mkN g n := by
  apply Nat.eq_of_testBit_eq
  intro i
  rw [Bool.eq_iff_iff, mkN_bit, mkN_bit]
  constructor
  · rintro ⟨a, b⟩; exact ⟨a, by rw [← h i a]; exact b⟩
  · rintro ⟨a, b⟩; exact ⟨a, by rw [h i a]; exact b⟩
/-- b without what is in it -/
def subS (b S : Nat) : Prop := ∀ p, b.testBit p = true → S.testBit p = true
theorem subS_le {b S : Nat} (h : subS b S) : b ≤ S := by
  have : b &&& S = b := by
    apply Nat.eq_of_testBit_eq
    intro i
    rw [Nat.testBit_and]
    cases hb : b.testBit i with
    | false => rfl
    | true => rw [h i hb]; rfl
  rw [← this]
  exact Nat.and_le_right
theorem subS_0 {S : Nat} : subS 0 S := fun p h => by rw [Nat.zero_testBit] at h; cases h
theorem subS_rf {S : Nat} : subS S S := fun p h => h
theorem or_bit {b p i : Nat} : (b ||| 2 ^ p).testBit i = (b.testBit i || decide (p = i)) := by rw [Nat.testBit_or, Nat.testBit_two_pow]
theorem subS_or {b S p : Nat} (h : subS b S) (hp : S.testBit p = true) : subS (b ||| 2 ^ p) S := fun i hi => by
  rw [or_bit, Bool.or_eq_true] at hi
  rcases hi with z | z
  · exact h i z
  · rw [← of_decide_eq_true z]; exact hp
theorem bit_lt {S n p : Nat} (hS : S < 2 ^ n) (h : S.testBit p = true) : p < n := by
  rcases Nat.lt_or_ge p n with z | z
  · exact z
  · have : S < 2 ^ p := Nat.lt_of_lt_of_le hS (Nat.pow_le_pow_right (by omega) z)
    rw [Nat.testBit_lt_two_pow this] at h
    cases h
/-- how many of S aren't in b -/
def cntR (n S b : Nat) : Nat := sumN (fun p => if S.testBit p && !b.testBit p then 1 else 0) n
theorem cntR_le {n S b : Nat} : cntR n S b ≤ n := by
  have := sumN_le (g := fun p => if S.testBit p && !b.testBit p then 1 else 0) (b := 1) n (fun i _ => by split <;> omega)
  unfold cntR
  omega
theorem cntR_or {n S b p : Nat} (hp : p < n) (h1 : S.testBit p = true) (h2 : b.testBit p = false) : cntR n S b = cntR n S (b ||| 2 ^ p) + 1 := by
  refine sumN_one n hp ?_ (fun i _ hi => ?_)
  · rw [h1, h2, or_bit]; simp
  · rw [or_bit, show decide (p = i) = false from decide_eq_false (fun z => hi z.symm), Bool.or_false]
theorem ne_or {b p : Nat} (h2 : b.testBit p = false) : b ≠ b ||| 2 ^ p := fun e => by
  have : (b ||| 2 ^ p).testBit p = true := by rw [or_bit]; simp
  rw [← e, h2] at this
  cases this
theorem lt_or {b p : Nat} (h2 : b.testBit p = false) : b < b ||| 2 ^ p := by
  have := ne_or h2
  have h3 : b ≤ b ||| 2 ^ p := Nat.left_le_or
  omega
section WA
variable {n S : Nat} {ok : Nat → Nat → Bool}
/-- only one of S, not yet below, may come on -/
def stepsOK (n S : Nat) (ok : Nat → Nat → Bool) : Prop := n ≤ 8 ∧ S < 2 ^ n ∧ ∀ b p, ok b p = true → S.testBit p = true ∧ b.testBit p = false
def wayF (n S : Nat) (ok : Nat → Nat → Bool) : Nat → Nat → Nat
  | 0, _ => 0
  | f + 1, b => (if b = S then 1 else 0) + sumN (fun p => if ok b p then wayF n S ok f (b ||| 2 ^ p) else 0) n
def lastF (n S : Nat) (ok : Nat → Nat → Bool) : Nat → Nat → Nat
  | 0, _ => 0
  | f + 1, b => orN (fun p => if ok b p then (if b ||| 2 ^ p = S then 2 ^ p else lastF n S ok f (b ||| 2 ^ p)) else 0) n
def ways (n S : Nat) (ok : Nat → Nat → Bool) (b : Nat) : Nat := wayF n S ok 9 b
def lasts (n S : Nat) (ok : Nat → Nat → Bool) (b : Nat) : Nat := lastF n S ok 9 b
theorem wayF_st (hk : stepsOK n S ok) : ∀ f g b, cntR n S b < f → cntR n S b < g → wayF n S ok f b = wayF n S ok g b
  | 0, _, _, h, _ => by omega
  | _ + 1, 0, _, _, h => by omega
  | f + 1, g + 1, b, h1, h2 => by
    unfold wayF
    congr 1
    refine sumN_cong n (fun p hp => ?_)
    by_cases e : ok b p = true
    · rw [if_pos e, if_pos e]
      obtain ⟨a1, a2⟩ := hk.2.2 b p e
      have := cntR_or hp a1 a2
      exact wayF_st hk f g _ (by omega) (by omega)
    · rw [if_neg e, if_neg e]
theorem orN_cong {g g' : Nat → Nat} : ∀ n, (∀ i, i < n → g i = g' i) → orN g n = orN g' n
  | 0, _ => rfl
  | n + 1, h => by rw [orN, orN, orN_cong n (fun i hi => h i (by omega)), h n (by omega)]
theorem lastF_st (hk : stepsOK n S ok) : ∀ f g b, cntR n S b < f → cntR n S b < g → lastF n S ok f b = lastF n S ok g b
  | 0, _, _, h, _ => by omega
  | _ + 1, 0, _, _, h => by omega
  | f + 1, g + 1, b, h1, h2 => by
    unfold lastF
    refine orN_cong n (fun p hp => ?_)
    by_cases e : ok b p = true
    · rw [if_pos e, if_pos e]
      obtain ⟨a1, a2⟩ := hk.2.2 b p e
      have := cntR_or hp a1 a2
      by_cases e2 : b ||| 2 ^ p = S
      · rw [if_pos e2, if_pos e2]
      · rw [if_neg e2, if_neg e2]
        exact lastF_st hk f g _ (by omega) (by omega)
    · rw [if_neg e, if_neg e]
theorem ways_eq (hk : stepsOK n S ok) (b : Nat) : ways n S ok b = (if b = S then 1 else 0) + sumN (fun p => if ok b p then ways n S ok (b ||| 2 ^ p) else 0) n := by
  have h8 := hk.1
  have hc := cntR_le (n := n) (S := S) (b := b)
  unfold ways
  rw [wayF]
  congr 1
  refine sumN_cong n (fun p hp => ?_)
  by_cases e : ok b p = true
  · rw [if_pos e, if_pos e]
    obtain ⟨a1, a2⟩ := hk.2.2 b p e
    have := cntR_or hp a1 a2
    exact wayF_st hk 8 9 _ (by omega) (by omega)
  · rw [if_neg e, if_neg e]
theorem lasts_eq (hk : stepsOK n S ok) (b : Nat) : lasts n S ok b = orN (fun p => if ok b p then (if b ||| 2 ^ p = S then 2 ^ p else lasts n S ok (b ||| 2 ^ p)) else 0) n := by
  have h8 := hk.1
  have hc := cntR_le (n := n) (S := S) (b := b)
  unfold lasts
  rw [lastF]
  refine orN_cong n (fun p hp => ?_)
  by_cases e : ok b p = true
  · rw [if_pos e, if_pos e]
    obtain ⟨a1, a2⟩ := hk.2.2 b p e
    have := cntR_or hp a1 a2
    by_cases e2 : b ||| 2 ^ p = S
    · rw [if_pos e2, if_pos e2]
    · rw [if_neg e2, if_neg e2]
      exact lastF_st hk 8 9 _ (by omega) (by omega)
  · rw [if_neg e, if_neg e]
theorem no_step (hk : stepsOK n S ok) (p : Nat) : ok S p = false := by
  cases h : ok S p with
  | false => rfl
  | true =>
    obtain ⟨a, b⟩ := hk.2.2 S p h
    rw [a] at b
    cases b
theorem wayF_le (hk : stepsOK n S ok) : ∀ f b, wayF n S ok f b ≤ 8 ^ f
  | 0, b => by simp [wayF]
  | f + 1, b => by
    unfold wayF
    by_cases e : b = S
    · subst e
      rw [if_pos rfl, sumN_cong (g' := fun _ => 0) n (fun p _ => by rw [no_step hk p]; rfl)]
      have : sumN (fun _ => 0) n ≤ 0 * n := sumN_le n (fun _ _ => Nat.le_refl _)
      have h1 : 0 < 8 ^ (f + 1) := Nat.pow_pos (by omega)
      omega
    · rw [if_neg e]
      have h2 : sumN (fun p => if ok b p then wayF n S ok f (b ||| 2 ^ p) else 0) n ≤ 8 ^ f * n := sumN_le n (fun p _ => by
        split
        · exact wayF_le hk f _
        · exact Nat.zero_le _)
      have h3 : 8 ^ f * n ≤ 8 ^ f * 8 := Nat.mul_le_mul_left _ hk.1
      rw [Nat.pow_succ]
      omega
theorem ways_lt (hk : stepsOK n S ok) (b : Nat) : ways n S ok b ≤ 134217728 := wayF_le hk 9 b
theorem ways_S (hk : stepsOK n S ok) : ways n S ok S = 1 := by
  rw [ways_eq hk, if_pos rfl, sumN_cong (g' := fun _ => 0) n (fun p _ => by rw [no_step hk p]; rfl)]
  have : sumN (fun _ => 0) n ≤ 0 * n := sumN_le n (fun _ _ => Nat.le_refl _)
  omega
theorem lasts_lt (hk : stepsOK n S ok) (b : Nat) : lasts n S ok b < 2 ^ n := by
  have : ∀ f b, lastF n S ok f b < 2 ^ n := by
    intro f
    induction f with
    | zero => intro b; exact Nat.two_pow_pos n
    | succ f ih =>
      intro b
      unfold lastF
      refine orN_lt (fun p => ?_) n
      split
      · rename_i e
        split
        · exact Nat.pow_lt_pow_right (by omega) (bit_lt hk.2.1 (hk.2.2 b p e).1)
        · exact ih _
      · exact Nat.two_pow_pos n
  exact this 9 b
/-- who is reached: the least that is closed under steps -/
def rch (ok : Nat → Nat → Bool) (b c : Nat) : Prop := ∀ X : Nat → Prop, X b → (∀ x p, X x → ok x p = true → X (x ||| 2 ^ p)) → X c
theorem rch_rf {b : Nat} : rch ok b b := fun X h _ => h
theorem rch_sn {b c p : Nat} (h : rch ok b c) (hp : ok c p = true) : rch ok b (c ||| 2 ^ p) := fun X h1 h2 => h2 c p (h X h1 h2) hp
theorem rch_cn {b c p : Nat} (hp : ok b p = true) (h : rch ok (b ||| 2 ^ p) c) : rch ok b c := fun X h1 h2 => h X (h2 b p h1 hp) h2
theorem rch_hd {b c : Nat} (h : rch ok b c) : c = b ∨ ∃ p, ok b p = true ∧ rch ok (b ||| 2 ^ p) c :=
  h (fun c => c = b ∨ ∃ p, ok b p = true ∧ rch ok (b ||| 2 ^ p) c) (Or.inl rfl) (fun x p hx hp => by
    rcases hx with rfl | ⟨q, h1, h2⟩
    · exact Or.inr ⟨p, hp, rch_rf⟩
    · exact Or.inr ⟨q, h1, rch_sn h2 hp⟩)
theorem rch_tl {b c : Nat} (h : rch ok b c) : c = b ∨ ∃ p e, rch ok b e ∧ ok e p = true ∧ c = e ||| 2 ^ p :=
  h (fun c => c = b ∨ ∃ p e, rch ok b e ∧ ok e p = true ∧ c = e ||| 2 ^ p) (Or.inl rfl) (fun x p hx hp => by
    refine Or.inr ⟨p, x, ?_, hp, rfl⟩
    rcases hx with rfl | ⟨q, e, h1, h2, h3⟩
    · exact rch_rf
    · rw [h3]; exact rch_sn h1 h2)
theorem rch_sub (hk : stepsOK n S ok) {b c : Nat} (hb : subS b S) (h : rch ok b c) : subS c S :=
  h (fun c => subS c S) hb (fun x p hx hp => subS_or hx (hk.2.2 x p hp).1)
theorem ways_pos (hk : stepsOK n S ok) : ∀ m b, cntR n S b = m → (0 < ways n S ok b ↔ rch ok b S) := by
  intro m
  induction m with
  | zero =>
    intro b hm
    rw [ways_eq hk]
    constructor
    · intro h
      by_cases e : b = S
      · rw [e]; exact rch_rf
      · rw [if_neg e, Nat.zero_add] at h
        obtain ⟨p, hp, h2⟩ := (sumN_pos n).mp h
        by_cases e2 : ok b p = true
        · obtain ⟨a1, a2⟩ := hk.2.2 b p e2
          have := cntR_or hp a1 a2
          omega
        · rw [if_neg e2] at h2; omega
    · intro h
      rcases rch_hd h with e | ⟨p, h1, h2⟩
      · rw [if_pos e.symm]; omega
      · obtain ⟨a1, a2⟩ := hk.2.2 b p h1
        have := cntR_or (bit_lt hk.2.1 a1) a1 a2
        omega
  | succ m ih =>
    intro b hm
    rw [ways_eq hk]
    constructor
    · intro h
      by_cases e : b = S
      · rw [e]; exact rch_rf
      · rw [if_neg e, Nat.zero_add] at h
        obtain ⟨p, hp, h2⟩ := (sumN_pos n).mp h
        by_cases e2 : ok b p = true
        · rw [if_pos e2] at h2
          obtain ⟨a1, a2⟩ := hk.2.2 b p e2
          have := cntR_or hp a1 a2
          exact rch_cn e2 ((ih _ (by omega)).mp h2)
        · rw [if_neg e2] at h2; omega
    · intro h
      rcases rch_hd h with e | ⟨p, h1, h2⟩
      · rw [if_pos e.symm]; omega
      · obtain ⟨a1, a2⟩ := hk.2.2 b p h1
        have hp := bit_lt hk.2.1 a1
        have := cntR_or hp a1 a2
        have h3 := (ih _ (by omega)).mpr h2
        have h4 := (sumN_pos (g := fun p => if ok b p then ways n S ok (b ||| 2 ^ p) else 0) n).mpr ⟨p, hp, by rw [if_pos h1]; exact h3⟩
        omega
theorem lasts_bit (hk : stepsOK n S ok) {q : Nat} : ∀ m b, cntR n S b ≤ m → ((lasts n S ok b).testBit q = true ↔ ∃ e, rch ok b e ∧ ok e q = true ∧ e ||| 2 ^ q = S) := by
  have stop : ∀ {e : Nat}, rch ok S e → ok e q = true → False := fun h1 h2 => by
    rcases rch_hd h1 with e | ⟨p, h3, _⟩
    · rw [e, no_step hk] at h2; cases h2
    · rw [no_step hk] at h3; cases h3
  intro m
  induction m with
  | zero =>
    intro b hm
    rw [lasts_eq hk, orN_bit]
    constructor
    · rintro ⟨p, hp, h2⟩
      by_cases e : ok b p = true
      · obtain ⟨a1, a2⟩ := hk.2.2 b p e
        have := cntR_or hp a1 a2
        omega
      · rw [if_neg e, Nat.zero_testBit] at h2; cases h2
    · rintro ⟨e, h1, h2, h3⟩
      rcases rch_hd h1 with z | ⟨p, z1, z2⟩
      · obtain ⟨a1, a2⟩ := hk.2.2 e q h2
        have := cntR_or (bit_lt hk.2.1 a1) a1 a2
        rw [z] at this
        omega
      · obtain ⟨a1, a2⟩ := hk.2.2 b p z1
        have := cntR_or (bit_lt hk.2.1 a1) a1 a2
        omega
  | succ m ih =>
    intro b hm
    rw [lasts_eq hk, orN_bit]
    constructor
    · rintro ⟨p, hp, h2⟩
      by_cases e : ok b p = true
      · rw [if_pos e] at h2
        obtain ⟨a1, a2⟩ := hk.2.2 b p e
        have := cntR_or hp a1 a2
        by_cases e2 : b ||| 2 ^ p = S
        · rw [if_pos e2, Nat.testBit_two_pow] at h2
          have : p = q := by simpa using h2
          subst this
          exact ⟨b, rch_rf, e, e2⟩
        · rw [if_neg e2] at h2
          obtain ⟨c, c1, c2, c3⟩ := (ih _ (by omega)).mp h2
          exact ⟨c, rch_cn e c1, c2, c3⟩
      · rw [if_neg e, Nat.zero_testBit] at h2; cases h2
    · rintro ⟨e, h1, h2, h3⟩
      rcases rch_hd h1 with z | ⟨p, z1, z2⟩
      · subst z
        obtain ⟨a1, a2⟩ := hk.2.2 e q h2
        exact ⟨q, bit_lt hk.2.1 a1, by rw [if_pos h2, if_pos h3, Nat.testBit_two_pow]; simp⟩
      · obtain ⟨a1, a2⟩ := hk.2.2 b p z1
        have hp := bit_lt hk.2.1 a1
        have := cntR_or hp a1 a2
        refine ⟨p, hp, ?_⟩
        rw [if_pos z1, if_neg (fun y => stop (by rw [← y]; exact z2) h2)]
        exact (ih _ (by omega)).mpr ⟨e, z2, h2, h3⟩
/-- the greatest of some ints -/
def maxZ (g : Nat → Int) (b : Int) : Nat → Int
  | 0 => b
  | n + 1 => if maxZ g b n < g n then g n else maxZ g b n
theorem maxZ_cong {g g' : Nat → Int} {b : Int} : ∀ n, (∀ i, i < n → g i = g' i) → maxZ g b n = maxZ g' b n
  | 0, _ => rfl
  | n + 1, h => by rw [maxZ, maxZ, maxZ_cong n (fun i hi => h i (by omega)), h n (by omega)]
/-- of those below and the last of them: the greatest gladness from there on; -1: none -/
def gladF (n S : Nat) (ok : Nat → Nat → Bool) (fd : Nat → Nat → Nat) : Nat → Nat → Nat → Int
  | 0, _, _ => -1
  | f + 1, b, l => maxZ (fun p => if ok b p then (if gladF n S ok fd f (b ||| 2 ^ p) p = -1 then -1 else gladF n S ok fd f (b ||| 2 ^ p) p + (fd l p : Int)) else -1) (if b = S then 0 else -1) n
def glads (n S : Nat) (ok : Nat → Nat → Bool) (fd : Nat → Nat → Nat) (b l : Nat) : Int := gladF n S ok fd 9 b l
theorem gladF_st {fd : Nat → Nat → Nat} (hk : stepsOK n S ok) : ∀ f g b l, cntR n S b < f → cntR n S b < g → gladF n S ok fd f b l = gladF n S ok fd g b l
  | 0, _, _, _, h, _ => by omega
  | _ + 1, 0, _, _, _, h => by omega
  | f + 1, g + 1, b, l, h1, h2 => by
    unfold gladF
    refine maxZ_cong n (fun p hp => ?_)
    by_cases e : ok b p = true
    · rw [if_pos e, if_pos e]
      obtain ⟨a1, a2⟩ := hk.2.2 b p e
      have := cntR_or hp a1 a2
      rw [gladF_st hk f g _ p (by omega) (by omega)]
    · rw [if_neg e, if_neg e]
theorem glads_eq {fd : Nat → Nat → Nat} (hk : stepsOK n S ok) (b l : Nat) : glads n S ok fd b l = maxZ (fun p => if ok b p then (if glads n S ok fd (b ||| 2 ^ p) p = -1 then -1 else glads n S ok fd (b ||| 2 ^ p) p + (fd l p : Int)) else -1) (if b = S then 0 else -1) n := by
  have h8 := hk.1
  have hc := cntR_le (n := n) (S := S) (b := b)
  unfold glads
  rw [gladF]
  refine maxZ_cong n (fun p hp => ?_)
  by_cases e : ok b p = true
  · rw [if_pos e, if_pos e]
    obtain ⟨a1, a2⟩ := hk.2.2 b p e
    have := cntR_or hp a1 a2
    rw [gladF_st hk 8 9 _ p (by omega) (by omega)]
  · rw [if_neg e, if_neg e]
theorem maxZ_ge {g : Nat → Int} {b : Int} : ∀ n, b ≤ maxZ g b n
  | 0 => Int.le_refl _
  | n + 1 => by
    have := maxZ_ge (g := g) (b := b) n
    rw [maxZ]
    split <;> omega
theorem maxZ_pos {g : Nat → Int} : ∀ n, (∀ i, i < n → -1 ≤ g i) → (maxZ g (-1) n ≠ -1 ↔ ∃ i, i < n ∧ g i ≠ -1)
  | 0, _ => ⟨fun h => absurd rfl h, fun ⟨i, h, _⟩ => by omega⟩
  | n + 1, h => by
    have ih := maxZ_pos n (fun i hi => h i (by omega))
    have hn := h n (by omega)
    have hg := maxZ_ge (g := g) (b := -1) n
    rw [maxZ]
    constructor
    · intro h1
      by_cases e : g n = -1
      · rw [if_neg (by omega)] at h1
        obtain ⟨i, a, b⟩ := ih.mp h1
        exact ⟨i, by omega, b⟩
      · exact ⟨n, by omega, e⟩
    · rintro ⟨i, a, b⟩
      by_cases e : i = n
      · subst e
        by_cases z : maxZ g (-1) i < g i
        · rw [if_pos z]; exact b
        · rw [if_neg z]; omega
      · have := ih.mpr ⟨i, by omega, b⟩
        split <;> omega
theorem maxZ_le {g : Nat → Int} {b c : Int} : ∀ n, b ≤ c → (∀ i, i < n → g i ≤ c) → maxZ g b n ≤ c
  | 0, h, _ => h
  | n + 1, h, h1 => by
    have := maxZ_le n h (fun i hi => h1 i (by omega))
    have h2 := h1 n (by omega)
    rw [maxZ]
    split <;> omega
theorem gladF_ge {fd : Nat → Nat → Nat} : ∀ f b l, -1 ≤ gladF n S ok fd f b l
  | 0, b, l => Int.le_refl _
  | f + 1, b, l => by
    unfold gladF
    refine Int.le_trans ?_ (maxZ_ge n)
    split <;> omega
theorem gladF_le {fd : Nat → Nat → Nat} (hfd : ∀ a b, fd a b ≤ 10) : ∀ f b l, gladF n S ok fd f b l ≤ 10 * f
  | 0, b, l => by show (-1 : Int) ≤ _; omega
  | f + 1, b, l => by
    unfold gladF
    refine maxZ_le n (by split <;> omega) (fun p _ => ?_)
    have := gladF_le hfd f (b ||| 2 ^ p) p
    have h2 := hfd l p
    split
    · split
      · omega
      · omega
    · omega
theorem glads_b {fd : Nat → Nat → Nat} (hfd : ∀ a b, fd a b ≤ 10) (b l : Nat) : -1 ≤ glads n S ok fd b l ∧ glads n S ok fd b l ≤ 90 := ⟨gladF_ge 9 b l, gladF_le hfd 9 b l⟩
theorem maxZ_S {g : Nat → Int} (b : Int) : ∀ n, (∀ i, i < n → g i ≤ b) → maxZ g b n = b
  | 0, _ => rfl
  | n + 1, h => by
    rw [maxZ, maxZ_S b n (fun i hi => h i (by omega)), if_neg (by have := h n (by omega); omega)]
theorem glads_none {fd : Nat → Nat → Nat} (hk : stepsOK n S ok) : ∀ m b l, cntR n S b = m → (glads n S ok fd b l ≠ -1 ↔ 0 < ways n S ok b) := by
  intro m
  induction m using Nat.strongRecOn with
  | _ m ih =>
    intro b l hm
    rw [glads_eq hk, ways_eq hk]
    by_cases e : b = S
    · rw [if_pos e, if_pos e]
      have := maxZ_ge (g := fun p => if ok b p then (if glads n S ok fd (b ||| 2 ^ p) p = -1 then -1 else glads n S ok fd (b ||| 2 ^ p) p + (fd l p : Int)) else -1) (b := 0) n
      exact ⟨fun _ => by omega, fun _ => by omega⟩
    · rw [if_neg e, if_neg e, Nat.zero_add, maxZ_pos n (fun i hi => by
        have : -1 ≤ glads n S ok fd (b ||| 2 ^ i) i := gladF_ge 9 _ _
        split
        · split <;> omega
        · omega), sumN_pos]
      constructor
      · rintro ⟨p, hp, h⟩
        refine ⟨p, hp, ?_⟩
        by_cases e2 : ok b p = true
        · rw [if_pos e2] at h ⊢
          obtain ⟨a1, a2⟩ := hk.2.2 b p e2
          have := cntR_or hp a1 a2
          refine (ih _ (by omega) _ p rfl).mp (fun z => ?_)
          rw [if_pos z] at h
          exact h rfl
        · rw [if_neg e2] at h; exact absurd rfl h
      · rintro ⟨p, hp, h⟩
        refine ⟨p, hp, ?_⟩
        by_cases e2 : ok b p = true
        · rw [if_pos e2] at h ⊢
          obtain ⟨a1, a2⟩ := hk.2.2 b p e2
          have := cntR_or hp a1 a2
          have h3 := (ih _ (by omega) _ p rfl).mpr h
          have h4 : -1 ≤ glads n S ok fd (b ||| 2 ^ p) p := gladF_ge 9 _ _
          rw [if_neg h3]
          omega
        · rw [if_neg e2] at h; omega
end WA
