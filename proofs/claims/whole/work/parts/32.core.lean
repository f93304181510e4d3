/-! THE MATHS: G a j says what the model's array with address a has at j (14: its own ints: 1 how many modules, 9 the last inside). -/
theorem FU_gt {n : Nat} (h : n < 10000000) : n < FU := by rw [FU_eq]; exact h
theorem tn (n : Nat) : (n : Int).toNat = n := by omega
theorem Bo_0 {p : Prop} [Decidable p] : Bo p = 0 ↔ ¬ p := by unfold Bo; split <;> simp_all
theorem Bo_1 {p : Prop} [Decidable p] : Bo p = 1 ↔ p := by unfold Bo; split <;> simp_all
def uq (G : Nat → Nat → Int) (a k : Nat) (v : Int) : Nat → Nat → Int := fun b j => if b = a ∧ j = k then v else G b j
theorem uq_at (G : Nat → Nat → Int) (a k : Nat) (v : Int) : uq G a k v a k = v := if_pos ⟨rfl, rfl⟩
theorem uq_ne {G : Nat → Nat → Int} {a k b j : Nat} {v : Int} (h : b ≠ a ∨ j ≠ k) : uq G a k v b j = G b j := if_neg (by omega)
def stI (S : AS) (J : Nat → Nat → Int) : AS := (hn S, hu S, hk S, hl S, J, hR S)
theorem stI_hI (S : AS) (J : Nat → Nat → Int) : hI (stI S J) = J := rfl
theorem stI_set (S : AS) (J K : Nat → Nat → Int) : stI (stI S J) K = stI S K := rfl
theorem stI_self (S : AS) : stI S (hI S) = S := rfl
theorem wI_set (S : AS) (a k : Nat) (v : Int) : wI S a k v = stI S (uq (hI S) a k v) := rfl
theorem Fix.st {S : AS} (h : Fix S) (J : Nat → Nat → Int) : Fix (stI S J) := ⟨h.1, h.2⟩
def kor (a j : Nat) : Prop := (15 ≤ a ∧ a ≤ 24) ∨ (a = 14 ∧ (j = 1 ∨ j = 9))
/-- the model's arrays are G's -/
def Ag (G : Nat → Nat → Int) (S : AS) : Prop := ∀ a j, kor a j → hI S a j = G a j
/-- what a method of the model may change -/
def MF (S S' : AS) : Prop := ∃ J, S' = stI S J ∧ ∀ a j, a < 14 ∨ 37 < a → J a j = hI S a j
theorem MF.rfl' (S : AS) : MF S S := ⟨hI S, rfl, fun _ _ _ => rfl⟩
theorem MF.tr {S T U : AS} (h : MF S T) (g : MF T U) : MF S U := by
  obtain ⟨J, rfl, hJ⟩ := h
  obtain ⟨K, rfl, hK⟩ := g
  exact ⟨K, rfl, fun a j ha => (hK a j ha).trans (hJ a j ha)⟩
theorem MF.w1 (S : AS) {a : Nat} (k : Nat) (v : Int) (h1 : 14 ≤ a) (h2 : a ≤ 37) : MF S (wI S a k v) := ⟨uq (hI S) a k v, rfl, fun b j hb => uq_ne (by omega)⟩
theorem MF.fix {S T : AS} (h : MF S T) (hf : Fix S) : Fix T := by
  obtain ⟨J, rfl, hJ⟩ := h
  exact hf.st J
theorem Ag.w1 {G : Nat → Nat → Int} {S : AS} (h : Ag G S) {a k : Nat} {v : Int} (hc : ¬ kor a k) : Ag G (wI S a k v) := fun b j hb => by
  rw [wI_set, stI_hI, uq_ne]
  · exact h b j hb
  · by_cases e : b = a
    · by_cases f : j = k
      · subst e; subst f; exact absurd hb hc
      · exact Or.inr f
    · exact Or.inl e
theorem Ag.u1 {G : Nat → Nat → Int} {S : AS} (h : Ag G S) {a k : Nat} {v : Int} : Ag (uq G a k v) (wI S a k v) := fun b j hb => by
  rw [wI_set, stI_hI]
  by_cases e : b = a ∧ j = k
  · obtain ⟨rfl, rfl⟩ := e
    rw [uq_at, uq_at]
  · rw [uq_ne (by omega), uq_ne (by omega)]
    exact h b j hb
/-- how many pins the first k ports of a module have -/
def pcs (G : Nat → Nat → Int) (m : Nat) : Nat → Int
  | 0 => 0
  | k + 1 => pcs G m k + G 16 (16 * m + k)
def pc (G : Nat → Nat → Int) (m : Nat) : Int := pcs G m (G 15 m).toNat
def PW (G : Nat → Nat → Int) (m : Nat) : Prop := 0 ≤ G 15 m ∧ G 15 m ≤ 16 ∧ ∀ k : Nat, (k : Int) < G 15 m → 1 ≤ G 16 (16 * m + k) ∧ G 16 (16 * m + k) ≤ 8 ∧ (G 17 (16 * m + k) = 0 ∨ G 17 (16 * m + k) = 1)
theorem pcs_le {G : Nat → Nat → Int} {m : Nat} (h : PW G m) : ∀ k : Nat, (k : Int) ≤ G 15 m → (k : Int) ≤ pcs G m k ∧ pcs G m k ≤ 8 * k := by
  intro k
  induction k with
  | zero => intro _; simp [pcs]
  | succ k ih =>
    intro hk
    have := ih (by omega)
    have := h.2.2 k (by omega)
    simp only [pcs]
    omega
theorem pc_le {G : Nat → Nat → Int} {m : Nat} (h : PW G m) : 0 ≤ pc G m ∧ pc G m ≤ 128 := by
  have := pcs_le h (G 15 m).toNat (by have := h.1; omega)
  have := h.1; have := h.2.1
  unfold pc; omega
/-- the out-bit of a module's pin -/
def obk (G : Nat → Nat → Int) (m : Nat) (q : Int) : Nat → Int
  | 0 => 0
  | k + 1 => if q < pcs G m k then obk G m q k else G 17 (16 * m + k)
def ob (G : Nat → Nat → Int) (m : Nat) (q : Int) : Int := obk G m q (G 15 m).toNat
/-- the module that an instance is of -/
def fo (G : Nat → Nat → Int) (m k : Nat) : Nat := (G 19 (64 * m + k)).toNat
def used (G : Nat → Nat → Int) (m : Nat) : Prop := ∃ j k : Nat, (j : Int) < G 14 1 ∧ (k : Int) < G 18 j ∧ fo G j k = m
/-- counting -/
def cnt (p : Nat → Bool) : Nat → Nat
  | 0 => 0
  | n + 1 => cnt p n + (if p n then 1 else 0)
/-- how many modules share a module's inside -/
def cJ (G : Nat → Nat → Int) (m : Nat) : Nat := cnt (fun j => decide (G 21 j = G 21 m)) (G 14 1).toNat
def MI (G : Nat → Nat → Int) (i : Nat) : Prop :=
  PW G i ∧ (0 ≤ G 18 i ∧ G 18 i ≤ 64) ∧ (0 ≤ G 20 i ∧ G 20 i ≤ 128) ∧
  (∀ k : Nat, (k : Int) < G 18 i → 0 ≤ G 19 (64 * i + k) ∧ G 19 (64 * i + k) < G 14 1) ∧
  (∀ q : Nat, q < 128 → -1 ≤ G 22 (8320 * i + 8192 + q) ∧ G 22 (8320 * i + 8192 + q) < G 20 i ∧ (pc G i ≤ q → G 22 (8320 * i + 8192 + q) = -1)) ∧
  (∀ k q : Nat, k < 64 → q < 128 → -1 ≤ G 22 (8320 * i + 128 * k + q) ∧ G 22 (8320 * i + 128 * k + q) < G 20 i ∧ (G 18 i ≤ k → G 22 (8320 * i + 128 * k + q) = -1)) ∧
  (∀ k : Nat, (k : Int) < G 18 i → 0 ≤ G 23 (64 * i + k) ∧ G 23 (64 * i + k) ≤ 24) ∧
  G 21 i ≤ G 14 9
def GI (G : Nat → Nat → Int) : Prop :=
  (0 ≤ G 14 1 ∧ G 14 1 ≤ 24) ∧ (∀ i : Nat, (i : Int) < G 14 1 → MI G i) ∧
  (∃ rk : Nat → Nat, ∀ i k : Nat, (i : Int) < G 14 1 → (k : Int) < G 18 i → rk (fo G i k) < rk i) ∧ (0 ≤ G 14 9 ∧ G 14 9 ≤ 100000) ∧ ∀ j, G 17 j = 0 ∨ G 17 j = 1
theorem GI.lt {G : Nat → Nat → Int} (h : GI G) {i : Nat} (hi : (i : Int) < G 14 1) : i < 24 := by have := h.1; omega
theorem GI.at {G : Nat → Nat → Int} (h : GI G) {i : Nat} (hi : (i : Int) < G 14 1) : MI G i := h.2.1 i hi
theorem GI.pw {G : Nat → Nat → Int} (h : GI G) {i : Nat} (hi : (i : Int) < G 14 1) : PW G i := (h.2.1 i hi).1
theorem GI.ni {G : Nat → Nat → Int} (h : GI G) {i : Nat} (hi : (i : Int) < G 14 1) : 0 ≤ G 18 i ∧ G 18 i ≤ 64 := (h.2.1 i hi).2.1
theorem GI.nn {G : Nat → Nat → Int} (h : GI G) {i : Nat} (hi : (i : Int) < G 14 1) : 0 ≤ G 20 i ∧ G 20 i ≤ 128 := (h.2.1 i hi).2.2.1
theorem GI.of {G : Nat → Nat → Int} (h : GI G) {i k : Nat} (hi : (i : Int) < G 14 1) (hk : (k : Int) < G 18 i) : 0 ≤ G 19 (64 * i + k) ∧ G 19 (64 * i + k) < G 14 1 := (h.2.1 i hi).2.2.2.1 k hk
theorem GI.fv {G : Nat → Nat → Int} (h : GI G) {i k : Nat} (hi : (i : Int) < G 14 1) (hk : (k : Int) < G 18 i) : G 19 (64 * i + k) = (fo G i k : Int) ∧ (fo G i k : Int) < G 14 1 := by
  have := h.of hi hk
  unfold fo; omega
/-! the class: sh the Shell of a module, ins its Inside, pl nt wy (by Inside and place) a Placement, its nets, its way; tg whose an int[] is -/
def ShF (G : Nat → Nat → Int) (S : AS) (i s : Nat) : Prop :=
  (39 ≤ s ∧ s + 2 < hn S) ∧ (hk S s = 5 ∧ hk S (s + 1) = 8 ∧ hk S (s + 2) = 9) ∧ (hl S (s + 1) = 16 ∧ hl S (s + 2) = 128) ∧
  (hR S s 1 = some (s + 1) ∧ hR S s 2 = some (s + 2)) ∧ (hI S s 0 = i ∧ hI S s 3 = G 15 i ∧ hI S s 4 = pc G i) ∧
  ((hI S s 5 = 0 ∨ hI S s 5 = 1) ∧ (hI S s 5 = 1 ↔ used G i)) ∧
  (∀ k, k < 16 → hI S (s + 1) k = if (k : Int) < G 15 i then G 16 (16 * i + k) else 0) ∧
  (∀ q : Nat, (q : Int) < pc G i → hI S (s + 2) q = ob G i q)
def InF (G : Nat → Nat → Int) (S : AS) (i a : Nat) : Prop :=
  (39 ≤ a ∧ a + 2 < hn S) ∧ (hk S a = 1 ∧ hk S (a + 1) = 8 ∧ hk S (a + 2) = 10) ∧ (hl S (a + 1) = 128 ∧ hl S (a + 2) = 64) ∧
  (hR S a 0 = some (a + 1) ∧ hR S a 1 = some (a + 2)) ∧ (hI S a 2 = G 18 i ∧ hI S a 3 = G 20 i ∧ hI S a 4 = cJ G i) ∧
  (∀ q, q < 128 → hI S (a + 1) q = G 22 (8320 * i + 8192 + q))
def PlF (G : Nat → Nat → Int) (S : AS) (sh : Nat → Nat) (i a k p n w : Nat) : Prop :=
  hR S (a + 2) k = some p ∧ (39 ≤ p ∧ p < hn S ∧ hk S p = 4) ∧ (hR S p 0 = some (sh (fo G i k)) ∧ hR S p 1 = some w ∧ hR S p 2 = some n) ∧
  (39 ≤ n ∧ n < hn S ∧ hk S n = 8 ∧ (hl S n : Int) = pc G (fo G i k)) ∧ (39 ≤ w ∧ w < hn S ∧ hk S w = 8) ∧
  (∀ q : Nat, (q : Int) < pc G (fo G i k) → hI S n q = G 22 (8320 * i + 128 * k + q)) ∧
  ((G 23 (64 * i + k) = 0 → hl S w = 1 ∧ hI S w 0 = k) ∧ (G 23 (64 * i + k) ≠ 0 → (hl S w : Int) = G 23 (64 * i + k) ∧ ∀ t : Nat, (t : Int) < G 23 (64 * i + k) → hI S w t = G 24 (24 * (64 * i + k) + t)))
variable {sh ins : Nat → Nat} {pl nt wy : Nat → Nat → Nat} {tg : Nat → Nat × Nat}
def Cls (sh ins : Nat → Nat) (pl nt wy : Nat → Nat → Nat) (tg : Nat → Nat × Nat) (G : Nat → Nat → Int) (S : AS) : Prop :=
  hI S 0 1 = G 14 1 ∧
  (∀ i : Nat, (i : Int) < G 14 1 → (hR S 1 i = some (sh i) ∧ hR S (sh i) 6 = some (ins i)) ∧ ShF G S i (sh i) ∧ InF G S i (ins i) ∧ (tg (sh i + 1) = (sh i, 0) ∧ tg (ins i + 1) = (ins i, 0)) ∧
    ∀ k : Nat, (k : Int) < G 18 i → PlF G S sh i (ins i) k (pl (ins i) k) (nt (ins i) k) (wy (ins i) k) ∧ tg (nt (ins i) k) = (ins i, k + 1) ∧ tg (wy (ins i) k) = (0, 0)) ∧
  (∀ i j : Nat, (i : Int) < G 14 1 → (j : Int) < G 14 1 → (ins i = ins j ↔ G 21 i = G 21 j))
/-- what a call that changes nothing leaves as it was -/
def Kp (S S' : AS) : Prop := hn S ≤ hn S' ∧ (∀ a, 39 ≤ a → a < hn S → hk S' a = hk S a ∧ hl S' a = hl S a ∧ (∀ j, hI S' a j = hI S a j) ∧ ∀ j, hR S' a j = hR S a j) ∧ hI S' 0 1 = hI S 0 1 ∧ ∀ j, hR S' 1 j = hR S 1 j
theorem Kp.rfl' (S : AS) : Kp S S := ⟨Nat.le_refl _, fun _ _ _ => ⟨rfl, rfl, fun _ => rfl, fun _ => rfl⟩, rfl, fun _ => rfl⟩
theorem Kp.tr {S T U : AS} (h : Kp S T) (g : Kp T U) : Kp S U := by
  refine ⟨Nat.le_trans h.1 g.1, fun a h1 h2 => ?_, g.2.2.1.trans h.2.2.1, fun j => (g.2.2.2 j).trans (h.2.2.2 j)⟩
  obtain ⟨p1, p2, p3, p4⟩ := h.2.1 a h1 h2
  obtain ⟨q1, q2, q3, q4⟩ := g.2.1 a h1 (Nat.lt_of_lt_of_le h2 h.1)
  exact ⟨q1.trans p1, q2.trans p2, fun j => (q3 j).trans (p3 j), fun j => (q4 j).trans (p4 j)⟩
theorem ShF.kp {G : Nat → Nat → Int} {S S' : AS} {i s : Nat} (h : ShF G S i s) (g : Kp S S') : ShF G S' i s := by
  obtain ⟨h1, h2, h3, h4, h5, h6, h7, h8⟩ := h
  obtain ⟨a1, a2, a3, a4⟩ := g.2.1 s (by omega) (by omega)
  obtain ⟨b1, b2, b3, b4⟩ := g.2.1 (s + 1) (by omega) (by omega)
  obtain ⟨c1, c2, c3, c4⟩ := g.2.1 (s + 2) (by omega) (by omega)
  have := g.1
  unfold ShF
  simp only [a1, b1, c1, b2, c2, a3, a4, b3, c3]
  exact ⟨⟨h1.1, by omega⟩, h2, h3, h4, h5, h6, h7, h8⟩
theorem InF.kp {G : Nat → Nat → Int} {S S' : AS} {i s : Nat} (h : InF G S i s) (g : Kp S S') : InF G S' i s := by
  obtain ⟨h1, h2, h3, h4, h5, h6⟩ := h
  obtain ⟨a1, a2, a3, a4⟩ := g.2.1 s (by omega) (by omega)
  obtain ⟨b1, b2, b3, b4⟩ := g.2.1 (s + 1) (by omega) (by omega)
  obtain ⟨c1, c2, c3, c4⟩ := g.2.1 (s + 2) (by omega) (by omega)
  have := g.1
  unfold InF
  simp only [a1, b1, c1, b2, c2, a3, a4, b3]
  exact ⟨⟨h1.1, by omega⟩, h2, h3, h4, h5, h6⟩
theorem PlF.kp {G : Nat → Nat → Int} {S S' : AS} {i a k p n w : Nat} (ha : 39 ≤ a) (hb : a + 2 < hn S) (h : PlF G S sh i a k p n w) (g : Kp S S') : PlF G S' sh i a k p n w := by
  obtain ⟨h1, h2, h3, h4, h5, h6, h7⟩ := h
  obtain ⟨a1, a2, a3, a4⟩ := g.2.1 (a + 2) (by omega) (by omega)
  obtain ⟨b1, b2, b3, b4⟩ := g.2.1 p (by omega) (by omega)
  obtain ⟨c1, c2, c3, c4⟩ := g.2.1 n (by omega) (by omega)
  obtain ⟨d1, d2, d3, d4⟩ := g.2.1 w (by omega) (by omega)
  have := g.1
  unfold PlF
  simp only [a4, b1, b4, c1, c2, c3, d1, d2, d3]
  exact ⟨h1, ⟨h2.1, by omega, h2.2.2⟩, h3, ⟨h4.1, by omega, h4.2.2⟩, ⟨h5.1, by omega, h5.2.2⟩, h6, h7⟩
theorem Cls.kp {G : Nat → Nat → Int} {S S' : AS} (h : Cls sh ins pl nt wy tg G S) (g : Kp S S') : Cls sh ins pl nt wy tg G S' := by
  obtain ⟨h1, h2, h3⟩ := h
  refine ⟨g.2.2.1.trans h1, fun i hi => ?_, h3⟩
  obtain ⟨⟨a1, a2⟩, b, c, d, e⟩ := h2 i hi
  refine ⟨⟨(g.2.2.2 i).trans a1, ?_⟩, b.kp g, c.kp g, d, fun k hk => ⟨(e k hk).1.kp c.1.1 c.1.2 g, (e k hk).2⟩⟩
  rw [(g.2.1 (sh i) b.1.1 (by have := b.1.2; omega)).2.2.2]
  exact a2
/-- the model's cells and the law's own are as they were, and the fixed cells are fixed -/
def Fr (S S' : AS) : Prop := (∀ a j, 14 ≤ a → a ≤ 38 → hI S' a j = hI S a j) ∧ Fix S'
theorem Fr.tr {S T U : AS} (h : Fr S T) (g : Fr T U) : Fr S U := ⟨fun a j h1 h2 => (g.1 a j h1 h2).trans (h.1 a j h1 h2), g.2⟩
theorem Fr.ag {G : Nat → Nat → Int} {S T : AS} (h : Fr S T) (g : Ag G S) : Ag G T := fun a j hc => (h.1 a j (by unfold kor at hc; omega) (by unfold kor at hc; omega)).trans (g a j hc)
def Bd (n u : Nat) (S S' : AS) : Prop := hn S' ≤ hn S + n ∧ hu S' ≤ hu S + u
def Rm (S : AS) : Prop := hn S + 1000 ≤ CM ∧ hu S + 13000 ≤ UM
/-- a query of the class -/
def Qu (S S' : AS) : Prop := Kp S S' ∧ Fr S S' ∧ Bd 1 6 S S'
theorem Qu.x {S : AS} (hf : Fix S) (h39 : 39 ≤ hn S) : Qu S (wX S) := by
  refine ⟨⟨Nat.le_succ _, fun a h1 h2 => ⟨?_, rfl, fun _ => rfl, fun _ => rfl⟩, rfl, fun _ => rfl⟩, ⟨fun _ _ _ _ => rfl, ⟨fun a ha => ⟨?_, (hf.1 a ha).2⟩, hf.2⟩⟩, ⟨Nat.le_refl _, Nat.le_refl _⟩⟩
  · rw [hk_wX, if_neg (by omega)]
  · rw [hk_wX, if_neg (by omega)]; exact (hf.1 a ha).1
theorem Qu.rfl' {S : AS} (hf : Fix S) : Qu S S := ⟨Kp.rfl' S, ⟨fun _ _ _ _ => rfl, hf⟩, ⟨Nat.le_succ _, Nat.le_add_right _ _⟩⟩
