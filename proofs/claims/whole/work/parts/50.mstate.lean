/-! the reference's object: its cells, and the state that it holds -/
def mref : List (Nat × Nat × Nat × Nat) := [(0, 1, 20, 8), (1, 2, 20, 8), (2, 3, 20, 8), (3, 4, 24, 8), (4, 13, 22, 40), (5, 14, 20, 8), (6, 15, 20, 250), (8, 16, 20, 8), (14, 17, 20, 8), (15, 18, 20, 8), (16, 19, 20, 8), (17, 20, 20, 8), (18, 21, 20, 8), (19, 22, 20, 8), (29, 23, 20, 5), (31, 24, 20, 256), (32, 25, 21, 256), (33, 26, 25, 256), (34, 283, 20, 256), (35, 284, 20, 8)]
def ModH (h : PH) (m : Nat) : Prop := hG h m = (8, 38) ∧ (∀ q ∈ mref, hR h m q.1 = some (m + q.2.1) ∧ hG h (m + q.2.1) = (q.2.2.1, q.2.2.2)) ∧ (∀ s, s < 8 → hR h (m + 4) s = some (m + 5 + s) ∧ hG h (m + 5 + s) = (22, 40)) ∧ ∀ s, s < 256 → hR h (m + 26) s = some (m + 27 + s) ∧ hG h (m + 27 + s) = (20, 8)
theorem ModH.g {h : PH} {m : Nat} (hM : ModH h m) : hG h m = (8, 38) := hM.1
theorem ModH.rw {h : PH} {m s : Nat} (hM : ModH h m) (hs : s < 8) : hR h (m + 4) s = some (m + 5 + s) := (hM.2.2.1 s hs).1
theorem ModH.gw {h : PH} {m s : Nat} (hM : ModH h m) (hs : s < 8) : hG h (m + 5 + s) = (22, 40) := (hM.2.2.1 s hs).2
theorem ModH.rj {h : PH} {m s : Nat} (hM : ModH h m) (hs : s < 256) : hR h (m + 26) s = some (m + 27 + s) := (hM.2.2.2 s hs).1
theorem ModH.gj {h : PH} {m s : Nat} (hM : ModH h m) (hs : s < 256) : hG h (m + 27 + s) = (20, 8) := (hM.2.2.2 s hs).2
theorem ModH.r0 {h : PH} {m : Nat} (hM : ModH h m) : hR h m 0 = some (m + 1) := (hM.2.1 (0, 1, 20, 8) (List.mem_of_getElem? (i := 0) rfl)).1
theorem ModH.g0 {h : PH} {m : Nat} (hM : ModH h m) : hG h (m + 1) = (20, 8) := (hM.2.1 (0, 1, 20, 8) (List.mem_of_getElem? (i := 0) rfl)).2
theorem ModH.r1 {h : PH} {m : Nat} (hM : ModH h m) : hR h m 1 = some (m + 2) := (hM.2.1 (1, 2, 20, 8) (List.mem_of_getElem? (i := 1) rfl)).1
theorem ModH.g1 {h : PH} {m : Nat} (hM : ModH h m) : hG h (m + 2) = (20, 8) := (hM.2.1 (1, 2, 20, 8) (List.mem_of_getElem? (i := 1) rfl)).2
theorem ModH.r2 {h : PH} {m : Nat} (hM : ModH h m) : hR h m 2 = some (m + 3) := (hM.2.1 (2, 3, 20, 8) (List.mem_of_getElem? (i := 2) rfl)).1
theorem ModH.g2 {h : PH} {m : Nat} (hM : ModH h m) : hG h (m + 3) = (20, 8) := (hM.2.1 (2, 3, 20, 8) (List.mem_of_getElem? (i := 2) rfl)).2
theorem ModH.r3 {h : PH} {m : Nat} (hM : ModH h m) : hR h m 3 = some (m + 4) := (hM.2.1 (3, 4, 24, 8) (List.mem_of_getElem? (i := 3) rfl)).1
theorem ModH.g3 {h : PH} {m : Nat} (hM : ModH h m) : hG h (m + 4) = (24, 8) := (hM.2.1 (3, 4, 24, 8) (List.mem_of_getElem? (i := 3) rfl)).2
theorem ModH.r4 {h : PH} {m : Nat} (hM : ModH h m) : hR h m 4 = some (m + 13) := (hM.2.1 (4, 13, 22, 40) (List.mem_of_getElem? (i := 4) rfl)).1
theorem ModH.g4 {h : PH} {m : Nat} (hM : ModH h m) : hG h (m + 13) = (22, 40) := (hM.2.1 (4, 13, 22, 40) (List.mem_of_getElem? (i := 4) rfl)).2
theorem ModH.r5 {h : PH} {m : Nat} (hM : ModH h m) : hR h m 5 = some (m + 14) := (hM.2.1 (5, 14, 20, 8) (List.mem_of_getElem? (i := 5) rfl)).1
theorem ModH.g5 {h : PH} {m : Nat} (hM : ModH h m) : hG h (m + 14) = (20, 8) := (hM.2.1 (5, 14, 20, 8) (List.mem_of_getElem? (i := 5) rfl)).2
theorem ModH.r6 {h : PH} {m : Nat} (hM : ModH h m) : hR h m 6 = some (m + 15) := (hM.2.1 (6, 15, 20, 250) (List.mem_of_getElem? (i := 6) rfl)).1
theorem ModH.g6 {h : PH} {m : Nat} (hM : ModH h m) : hG h (m + 15) = (20, 250) := (hM.2.1 (6, 15, 20, 250) (List.mem_of_getElem? (i := 6) rfl)).2
theorem ModH.r8 {h : PH} {m : Nat} (hM : ModH h m) : hR h m 8 = some (m + 16) := (hM.2.1 (8, 16, 20, 8) (List.mem_of_getElem? (i := 7) rfl)).1
theorem ModH.g8 {h : PH} {m : Nat} (hM : ModH h m) : hG h (m + 16) = (20, 8) := (hM.2.1 (8, 16, 20, 8) (List.mem_of_getElem? (i := 7) rfl)).2
theorem ModH.r14 {h : PH} {m : Nat} (hM : ModH h m) : hR h m 14 = some (m + 17) := (hM.2.1 (14, 17, 20, 8) (List.mem_of_getElem? (i := 8) rfl)).1
theorem ModH.g14 {h : PH} {m : Nat} (hM : ModH h m) : hG h (m + 17) = (20, 8) := (hM.2.1 (14, 17, 20, 8) (List.mem_of_getElem? (i := 8) rfl)).2
theorem ModH.r15 {h : PH} {m : Nat} (hM : ModH h m) : hR h m 15 = some (m + 18) := (hM.2.1 (15, 18, 20, 8) (List.mem_of_getElem? (i := 9) rfl)).1
theorem ModH.g15 {h : PH} {m : Nat} (hM : ModH h m) : hG h (m + 18) = (20, 8) := (hM.2.1 (15, 18, 20, 8) (List.mem_of_getElem? (i := 9) rfl)).2
theorem ModH.r16 {h : PH} {m : Nat} (hM : ModH h m) : hR h m 16 = some (m + 19) := (hM.2.1 (16, 19, 20, 8) (List.mem_of_getElem? (i := 10) rfl)).1
theorem ModH.g16 {h : PH} {m : Nat} (hM : ModH h m) : hG h (m + 19) = (20, 8) := (hM.2.1 (16, 19, 20, 8) (List.mem_of_getElem? (i := 10) rfl)).2
theorem ModH.r17 {h : PH} {m : Nat} (hM : ModH h m) : hR h m 17 = some (m + 20) := (hM.2.1 (17, 20, 20, 8) (List.mem_of_getElem? (i := 11) rfl)).1
theorem ModH.g17 {h : PH} {m : Nat} (hM : ModH h m) : hG h (m + 20) = (20, 8) := (hM.2.1 (17, 20, 20, 8) (List.mem_of_getElem? (i := 11) rfl)).2
theorem ModH.r18 {h : PH} {m : Nat} (hM : ModH h m) : hR h m 18 = some (m + 21) := (hM.2.1 (18, 21, 20, 8) (List.mem_of_getElem? (i := 12) rfl)).1
theorem ModH.g18 {h : PH} {m : Nat} (hM : ModH h m) : hG h (m + 21) = (20, 8) := (hM.2.1 (18, 21, 20, 8) (List.mem_of_getElem? (i := 12) rfl)).2
theorem ModH.r19 {h : PH} {m : Nat} (hM : ModH h m) : hR h m 19 = some (m + 22) := (hM.2.1 (19, 22, 20, 8) (List.mem_of_getElem? (i := 13) rfl)).1
theorem ModH.g19 {h : PH} {m : Nat} (hM : ModH h m) : hG h (m + 22) = (20, 8) := (hM.2.1 (19, 22, 20, 8) (List.mem_of_getElem? (i := 13) rfl)).2
theorem ModH.r29 {h : PH} {m : Nat} (hM : ModH h m) : hR h m 29 = some (m + 23) := (hM.2.1 (29, 23, 20, 5) (List.mem_of_getElem? (i := 14) rfl)).1
theorem ModH.g29 {h : PH} {m : Nat} (hM : ModH h m) : hG h (m + 23) = (20, 5) := (hM.2.1 (29, 23, 20, 5) (List.mem_of_getElem? (i := 14) rfl)).2
theorem ModH.r31 {h : PH} {m : Nat} (hM : ModH h m) : hR h m 31 = some (m + 24) := (hM.2.1 (31, 24, 20, 256) (List.mem_of_getElem? (i := 15) rfl)).1
theorem ModH.g31 {h : PH} {m : Nat} (hM : ModH h m) : hG h (m + 24) = (20, 256) := (hM.2.1 (31, 24, 20, 256) (List.mem_of_getElem? (i := 15) rfl)).2
theorem ModH.r32 {h : PH} {m : Nat} (hM : ModH h m) : hR h m 32 = some (m + 25) := (hM.2.1 (32, 25, 21, 256) (List.mem_of_getElem? (i := 16) rfl)).1
theorem ModH.g32 {h : PH} {m : Nat} (hM : ModH h m) : hG h (m + 25) = (21, 256) := (hM.2.1 (32, 25, 21, 256) (List.mem_of_getElem? (i := 16) rfl)).2
theorem ModH.r33 {h : PH} {m : Nat} (hM : ModH h m) : hR h m 33 = some (m + 26) := (hM.2.1 (33, 26, 25, 256) (List.mem_of_getElem? (i := 17) rfl)).1
theorem ModH.g33 {h : PH} {m : Nat} (hM : ModH h m) : hG h (m + 26) = (25, 256) := (hM.2.1 (33, 26, 25, 256) (List.mem_of_getElem? (i := 17) rfl)).2
theorem ModH.r34 {h : PH} {m : Nat} (hM : ModH h m) : hR h m 34 = some (m + 283) := (hM.2.1 (34, 283, 20, 256) (List.mem_of_getElem? (i := 18) rfl)).1
theorem ModH.g34 {h : PH} {m : Nat} (hM : ModH h m) : hG h (m + 283) = (20, 256) := (hM.2.1 (34, 283, 20, 256) (List.mem_of_getElem? (i := 18) rfl)).2
theorem ModH.r35 {h : PH} {m : Nat} (hM : ModH h m) : hR h m 35 = some (m + 284) := (hM.2.1 (35, 284, 20, 8) (List.mem_of_getElem? (i := 19) rfl)).1
theorem ModH.g35 {h : PH} {m : Nat} (hM : ModH h m) : hG h (m + 284) = (20, 8) := (hM.2.1 (35, 284, 20, 8) (List.mem_of_getElem? (i := 19) rfl)).2
/-- what changes of ints, by cell and place -/
def Upf (F : Nat → Nat → Prop) (h h1 : PH) : Prop := hn h1 = hn h ∧ hs h1 = hs h ∧ hT h1 = hT h ∧ hR h1 = hR h ∧ hL h1 = hL h ∧ ∀ i k, ¬ F i k → hI h1 i k = hI h i k
section UF
variable {F G : Nat → Nat → Prop} {S : Nat → Prop} {h h1 h2 : PH}
theorem Upf.rf : Upf F h h := ⟨rfl, rfl, rfl, rfl, rfl, fun _ _ _ => rfl⟩
theorem Upf.tr (a : Upf F h h1) (b : Upf F h1 h2) : Upf F h h2 := ⟨b.1.trans a.1, b.2.1.trans a.2.1, b.2.2.1.trans a.2.2.1, b.2.2.2.1.trans a.2.2.2.1, b.2.2.2.2.1.trans a.2.2.2.2.1, fun i k q => (b.2.2.2.2.2 i k q).trans (a.2.2.2.2.2 i k q)⟩
theorem Upf.mono (a : Upf F h h1) (hs : ∀ i k, F i k → G i k) : Upf G h h1 := ⟨a.1, a.2.1, a.2.2.1, a.2.2.2.1, a.2.2.2.2.1, fun i k q => a.2.2.2.2.2 i k (fun w => q (hs i k w))⟩
theorem Upf.set {i k : Nat} {v : Int32} (hi : F i k) : Upf F h (setI h i k v) := ⟨rfl, rfl, rfl, rfl, rfl, fun a b q => by rw [hI_setI, if_neg (fun w => q (by rw [w.1, w.2]; exact hi))]⟩
theorem Upf.st {i k : Nat} {v : Int32} (a : Upf F h h1) (hi : F i k) : Upf F h (setI h1 i k v) := a.tr (Upf.set hi)
theorem Upf.upd (a : Upf F h h1) (hs : ∀ i k, F i k → S i) : Upd S h h1 := ⟨a.1, a.2.1, a.2.2.1, a.2.2.2.1, a.2.2.2.2.1, fun i q => funext fun k => a.2.2.2.2.2 i k (fun w => q (hs i k w))⟩
theorem Upf.gg (a : Upf F h h1) (i : Nat) : hG h1 i = hG h i := (a.upd (S := fun _ => True) (fun _ _ _ => trivial)).gg i
theorem Upf.rr (a : Upf F h h1) (i k : Nat) : hR h1 i k = hR h i k := by rw [a.2.2.2.1]
theorem Upf.ll (a : Upf F h h1) (i k : Nat) : hL h1 i k = hL h i k := by rw [a.2.2.2.2.1]
theorem Upf.ii (a : Upf F h h1) {i k : Nat} (q : ¬ F i k) : hI h1 i k = hI h i k := a.2.2.2.2.2 i k q
theorem ModH.keep {m : Nat} (hM : ModH h m) (a : Upf F h h1) : ModH h1 m :=
  ⟨by rw [a.gg]; exact hM.1, fun q hq => by rw [a.rr, a.gg]; exact hM.2.1 q hq, fun s hs => by rw [a.rr, a.gg]; exact hM.2.2.1 s hs, fun s hs => by rw [a.rr, a.gg]; exact hM.2.2.2 s hs⟩
end UF
/-- people, tower, the rest of a world -/
def MC (h : PH) (m : Nat) (P : List Pers) : Prop := hI h m 13 = nI P.length ∧ P.length ≤ 8 ∧ (∀ q ∈ P, okP q) ∧ ∀ p, p < P.length → hI h (m + 17) p = nI (pg P p).1 ∧ hI h (m + 18) p = nI (pg P p).2.1 ∧ hI h (m + 19) p = nI (pg P p).2.2.1 ∧ hI h (m + 20) p = nI (pg P p).2.2.2.1 ∧ hI h (m + 21) p = nI (pg P p).2.2.2.2
def MPl (h : PH) (m : Nat) (L : List Nat) : Prop := hI h m 20 = nI L.length ∧ L.length ≤ 8 ∧ ∀ k, k < L.length → hI h (m + 22) k = nI (L.getD k 0)
def MW (h : PH) (m : Nat) (u : Nat × Nat × Nat × Int32 × Int32) : Prop := hI h m 9 = nI u.1 ∧ hI h m 10 = nI u.2.1 ∧ hI h m 11 = nI u.2.2.1 ∧ hI h m 12 = u.2.2.2.1 ∧ hI h m 21 = u.2.2.2.2 ∧ u.1 ≤ 10 ∧ u.2.1 ≤ 8 ∧ u.2.2.1 ≤ 999
def MB (h : PH) (m : Nat) (σ : WS) : Prop := MC h m σ.1 ∧ MPl h m σ.2.1 ∧ MW h m σ.2.2
section MBS
variable {F : Nat → Nat → Prop} {h h1 : PH} {m : Nat} {σ : WS} {P : List Pers} {L : List Nat} {u : Nat × Nat × Nat × Int32 × Int32}
theorem MC.of (hC : MC h m P) (e : ∀ i k, (i = m ∧ k = 13) ∨ (m + 17 ≤ i ∧ i ≤ m + 21) → hI h1 i k = hI h i k) : MC h1 m P := by
  obtain ⟨c1, c2, c3, c4⟩ := hC
  refine ⟨by rw [e m 13 (by omega)]; exact c1, c2, c3, fun p hp => ?_⟩
  rw [e (m + 17) p (by omega), e (m + 18) p (by omega), e (m + 19) p (by omega), e (m + 20) p (by omega), e (m + 21) p (by omega)]
  exact c4 p hp
theorem MPl.of (hL : MPl h m L) (e : ∀ i k, (i = m ∧ k = 20) ∨ i = m + 22 → hI h1 i k = hI h i k) : MPl h1 m L := by
  obtain ⟨c1, c2, c3⟩ := hL
  refine ⟨by rw [e m 20 (by omega)]; exact c1, c2, fun k hk => ?_⟩
  rw [e (m + 22) k (by omega)]
  exact c3 k hk
theorem MW.of (hW : MW h m u) (e : ∀ i k, i = m ∧ (k = 9 ∨ k = 10 ∨ k = 11 ∨ k = 12 ∨ k = 21) → hI h1 i k = hI h i k) : MW h1 m u := by
  obtain ⟨c1, c2, c3, c4, c5, c6⟩ := hW
  rw [← e m 9 (by omega)] at c1
  rw [← e m 10 (by omega)] at c2
  rw [← e m 11 (by omega)] at c3
  rw [← e m 12 (by omega)] at c4
  rw [← e m 21 (by omega)] at c5
  exact ⟨c1, c2, c3, c4, c5, c6⟩
/-- the places of a world -/
def fV (m : Nat) : Nat → Nat → Prop := fun i k => (i = m ∧ (k = 9 ∨ k = 10 ∨ k = 11 ∨ k = 12 ∨ k = 13 ∨ k = 20 ∨ k = 21)) ∨ (m + 17 ≤ i ∧ i ≤ m + 22)
/-- all ints of a reference -/
def fM (m : Nat) : Nat → Nat → Prop := fun i _ => m ≤ i ∧ i < m + 285
/-- what no world holds: rows of sets, scratch -/
def fS (m : Nat) : Nat → Nat → Prop := fun i k => (i = m ∧ ((24 ≤ k ∧ k ≤ 28) ∨ k = 30 ∨ k = 36 ∨ k = 37)) ∨ (m + 23 ≤ i ∧ i < m + 285)
theorem MB.keep (hB : MB h m σ) (a : Upf F h h1) (hF : ∀ i k, fV m i k → ¬ F i k) : MB h1 m σ :=
  ⟨hB.1.of (fun i k q => a.ii (hF i k (by unfold fV; omega))), hB.2.1.of (fun i k q => a.ii (hF i k (by unfold fV; omega))), hB.2.2.of (fun i k q => a.ii (hF i k (by unfold fV; omega)))⟩
theorem MB.keepS (hB : MB h m σ) (a : Upf (fS m) h h1) : MB h1 m σ := hB.keep a (fun i k q => by unfold fV at q; unfold fS; omega)
theorem fVM {i k : Nat} (q : fV m i k) : fM m i k := by unfold fV at q; unfold fM; omega
theorem fSM {i k : Nat} (q : fS m i k) : fM m i k := by unfold fS at q; unfold fM; omega
theorem MB.n (hB : MB h m σ) : hI h m 13 = nI σ.1.length := hB.1.1
theorem MB.n8 (hB : MB h m σ) : σ.1.length ≤ 8 := hB.1.2.1
theorem MB.ok (hB : MB h m σ) : ∀ q ∈ σ.1, okP q := hB.1.2.2.1
theorem MB.kd {p : Nat} (hB : MB h m σ) (hp : p < σ.1.length) : hI h (m + 17) p = nI (pg σ.1 p).1 := (hB.1.2.2.2 p hp).1
theorem MB.a {p : Nat} (hB : MB h m σ) (hp : p < σ.1.length) : hI h (m + 18) p = nI (pg σ.1 p).2.1 := (hB.1.2.2.2 p hp).2.1
theorem MB.we {p : Nat} (hB : MB h m σ) (hp : p < σ.1.length) : hI h (m + 19) p = nI (pg σ.1 p).2.2.1 := (hB.1.2.2.2 p hp).2.2.1
theorem MB.sr {p : Nat} (hB : MB h m σ) (hp : p < σ.1.length) : hI h (m + 20) p = nI (pg σ.1 p).2.2.2.1 := (hB.1.2.2.2 p hp).2.2.2.1
theorem MB.ne {p : Nat} (hB : MB h m σ) (hp : p < σ.1.length) : hI h (m + 21) p = nI (pg σ.1 p).2.2.2.2 := (hB.1.2.2.2 p hp).2.2.2.2
theorem MB.sz (hB : MB h m σ) : hI h m 20 = nI σ.2.1.length := hB.2.1.1
theorem MB.l8 (hB : MB h m σ) : σ.2.1.length ≤ 8 := hB.2.1.2.1
theorem MB.sk {k : Nat} (hB : MB h m σ) (hk : k < σ.2.1.length) : hI h (m + 22) k = nI (σ.2.1.getD k 0) := hB.2.1.2.2 k hk
theorem MB.wi (hB : MB h m σ) : hI h m 9 = nI σ.2.2.1 := hB.2.2.1
theorem MB.mo (hB : MB h m σ) : hI h m 10 = nI σ.2.2.2.1 := hB.2.2.2.1
theorem MB.da (hB : MB h m σ) : hI h m 11 = nI σ.2.2.2.2.1 := hB.2.2.2.2.1
theorem MB.fa (hB : MB h m σ) : hI h m 12 = σ.2.2.2.2.2.1 := hB.2.2.2.2.2.1
theorem MB.se (hB : MB h m σ) : hI h m 21 = σ.2.2.2.2.2.2 := hB.2.2.2.2.2.2.1
theorem MB.w10 (hB : MB h m σ) : σ.2.2.1 ≤ 10 := hB.2.2.2.2.2.2.2.1
theorem MB.m8 (hB : MB h m σ) : σ.2.2.2.1 ≤ 8 := hB.2.2.2.2.2.2.2.2.1
theorem MB.d999 (hB : MB h m σ) : σ.2.2.2.2.1 ≤ 999 := hB.2.2.2.2.2.2.2.2.2
end MBS
/-- another answer of the same value -/
theorem jo {M : JM} {d pc : Nat} {ls : List (Option Value)} {st : List Value} {h : PH} {o o' : Option Value} {h' : PH} (e : o = o') (k : J M d pc ls st h o h') : J M d pc ls st h o' h' := e ▸ k
theorem ji {M : JM} {d pc : Nat} {ls : List (Option Value)} {st : List Value} {h : PH} {v w : Int32} {h' : PH} (e : v = w) (k : J M d pc ls st h (some (.int v)) h') : J M d pc ls st h (some (.int w)) h' := e ▸ k
theorem tr64 (v : Int32) : v.toInt64.toInt = v.toInt := Int32.toInt_toInt64 v
section MP
variable {d : Nat} {h : PH} {m : Nat} {σ : WS}
def inQ (a b c : Int64) : Bool := decide (b.toInt ≤ a.toInt ∧ a.toInt ≤ c.toInt)
theorem t_inL {a b c : Int64} : JMt mX8_in (some .boolean) d [.long a, .long b, .long c] h (some (.int (bI (inQ a b c)))) h := by
  have n1 : ∀ x y : Int64, lg_cmp x y < 0 ↔ x.toInt < y.toInt := fun x y => by rw [lg_cmp_lt, fa_lt64]
  have n2 : ∀ x y : Int64, 0 < lg_cmp x y ↔ y.toInt < x.toInt := fun x y => by rw [lg_cmp_gt, fa_lt64]
  refine jm mi_X8_in (Nat.le_of_ble_eq_true rfl) rB rfl (k_X8_in_0 (fun q => ?_) (fun q => k_X8_in_6 (fun q2 => ?_) (fun q2 => ?_)))
  · rw [n1] at q
    rw [show inQ a b c = false from decide_eq_false (by omega)]; exact k_X8_in_17 k_X8_in_18
  · rw [n2] at q2
    rw [show inQ a b c = false from decide_eq_false (by omega)]; exact k_X8_in_17 k_X8_in_18
  · rw [n1] at q
    rw [n2] at q2
    rw [show inQ a b c = true from decide_eq_true (by omega)]; exact k_X8_in_13 k_X8_in_18
theorem t_inI {v : Int32} {x y : Int64} {lo hi : Int} (h1 : x.toInt = lo) (h2 : y.toInt = hi) : JMt mX8_in (some .boolean) d [.long v.toInt64, .long x, .long y] h (some (.int (bI (inB v lo hi)))) h := by
  have := t_inL (d := d) (h := h) (a := v.toInt64) (b := x) (c := y)
  rw [show inQ v.toInt64 x y = inB v lo hi by unfold inQ inB; rw [tr64, h1, h2]] at this
  exact this
theorem nI_pre1 {n : Nat} (hn : n < 2 ^ 31) : (nI n - (1 : Int32)).toInt64.toInt = (n : Int) - 1 := by
  rw [tr64, show (1 : Int32) = nI 1 from rfl, nI_nsub, sI_toInt (by omega) (by omega)]
  rfl
theorem t_isPersonL {z : Int64} (hM : ModH h m) (hB : MB h m σ) : JMt mX8_isPerson (some .boolean) (d + 1) [.ref m, .long z] h (some (.int (bI (decide (0 ≤ z.toInt ∧ z.toInt < σ.1.length))))) h := by
  have := t_inL (d := d) (h := h) (a := z) (b := 0) (c := (hI h m 13 - 1).toInt64)
  rw [hB.n] at this
  have n8 := hB.n8
  rw [show inQ z 0 (nI σ.1.length - 1).toInt64 = decide (0 ≤ z.toInt ∧ z.toInt < σ.1.length) by unfold inQ; rw [nI_pre1 (by omega), show (0 : Int64).toInt = 0 from rfl]; exact decide_eq_decide.mpr (by omega)] at this
  exact jm mi_X8_isPerson (Nat.le_of_ble_eq_true rfl) rB rfl (k_X8_isPerson_0 hM.g (by rw [hB.n]; exact this) (Or.inl rfl))
theorem t_isPerson {v : Int32} (hM : ModH h m) (hB : MB h m σ) : JMt mX8_isPerson (some .boolean) (d + 1) [.ref m, .long v.toInt64] h (some (.int (bI (hasB σ.1.length v)))) h := by
  have := t_isPersonL (d := d) (z := v.toInt64) hM hB
  rw [tr64] at this
  exact this
end MP
theorem t_in_0_7 {d : Nat} {h : PH} {v : Int32} : JMt mX8_in (some .boolean) d [.long v.toInt64, .long (0 : Int64), .long (7 : Int64)] h (some (.int (bI (inB v 0 7)))) h := t_inI rfl rfl
theorem t_in_0_4 {d : Nat} {h : PH} {v : Int32} : JMt mX8_in (some .boolean) d [.long v.toInt64, .long (0 : Int64), .long (4 : Int64)] h (some (.int (bI (inB v 0 4)))) h := t_inI rfl rfl
theorem t_in_0_40 {d : Nat} {h : PH} {v : Int32} : JMt mX8_in (some .boolean) d [.long v.toInt64, .long (0 : Int64), .long (40 : Int64)] h (some (.int (bI (inB v 0 40)))) h := t_inI rfl rfl
theorem t_in_0_5 {d : Nat} {h : PH} {v : Int32} : JMt mX8_in (some .boolean) d [.long v.toInt64, .long (0 : Int64), .long (5 : Int64)] h (some (.int (bI (inB v 0 5)))) h := t_inI rfl rfl
theorem t_in_0_9 {d : Nat} {h : PH} {v : Int32} : JMt mX8_in (some .boolean) d [.long v.toInt64, .long (0 : Int64), .long (9 : Int64)] h (some (.int (bI (inB v 0 9)))) h := t_inI rfl rfl
theorem t_in_1_40 {d : Nat} {h : PH} {v : Int32} : JMt mX8_in (some .boolean) d [.long v.toInt64, .long (1 : Int64), .long (40 : Int64)] h (some (.int (bI (inB v 1 40)))) h := t_inI rfl rfl
theorem t_in_0_99 {d : Nat} {h : PH} {v : Int32} : JMt mX8_in (some .boolean) d [.long v.toInt64, .long (0 : Int64), .long (99 : Int64)] h (some (.int (bI (inB v 0 99)))) h := t_inI rfl rfl
theorem t_in_0_2 {d : Nat} {h : PH} {v : Int32} : JMt mX8_in (some .boolean) d [.long v.toInt64, .long (0 : Int64), .long (2 : Int64)] h (some (.int (bI (inB v 0 2)))) h := t_inI rfl rfl
theorem t_in_0_255 {d : Nat} {h : PH} {v : Int32} : JMt mX8_in (some .boolean) d [.long v.toInt64, .long (0 : Int64), .long (255 : Int64)] h (some (.int (bI (inB v 0 255)))) h := t_inI rfl rfl
theorem t_in_0_8 {d : Nat} {h : PH} {v : Int32} : JMt mX8_in (some .boolean) d [.long v.toInt64, .long (0 : Int64), .long (8 : Int64)] h (some (.int (bI (inB v 0 8)))) h := t_inI rfl rfl
theorem t_in_0_999 {d : Nat} {h : PH} {v : Int32} : JMt mX8_in (some .boolean) d [.long v.toInt64, .long (0 : Int64), .long (999 : Int64)] h (some (.int (bI (inB v 0 999)))) h := t_inI rfl rfl
theorem t_in_0_1 {d : Nat} {h : PH} {v : Int32} : JMt mX8_in (some .boolean) d [.long v.toInt64, .long (0 : Int64), .long (1 : Int64)] h (some (.int (bI (inB v 0 1)))) h := t_inI rfl rfl
theorem t_in_0_3 {d : Nat} {h : PH} {v : Int32} : JMt mX8_in (some .boolean) d [.long v.toInt64, .long (0 : Int64), .long (3 : Int64)] h (some (.int (bI (inB v 0 3)))) h := t_inI rfl rfl
theorem t_in_1_60 {d : Nat} {h : PH} {v : Int32} : JMt mX8_in (some .boolean) d [.long v.toInt64, .long (1 : Int64), .long (60 : Int64)] h (some (.int (bI (inB v 1 60)))) h := t_inI rfl rfl
theorem t_in_0_60 {d : Nat} {h : PH} {v : Int32} : JMt mX8_in (some .boolean) d [.long v.toInt64, .long (0 : Int64), .long (60 : Int64)] h (some (.int (bI (inB v 0 60)))) h := t_inI rfl rfl
theorem t_in_12_16 {d : Nat} {h : PH} {v : Int32} : JMt mX8_in (some .boolean) d [.long v.toInt64, .long (12 : Int64), .long (16 : Int64)] h (some (.int (bI (inB v 12 16)))) h := t_inI rfl rfl
