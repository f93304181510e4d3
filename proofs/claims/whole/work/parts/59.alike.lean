/-! alike: the greatest relation that repeats itself; the model's findAlike -/
variable {sh ins : Nat → Nat} {pl nt wy : Nat → Nat → Nat} {tg : Nat → Nat × Nat}
section
variable {G : Nat → Nat → Int} {S : AS}
def Bs (G : Nat → Nat → Int) (a b : Nat) : Prop := G 15 a = G 15 b ∧ G 18 a = G 18 b ∧ G 20 a = G 20 b ∧ ∀ k : Nat, (k : Int) < G 15 a → G 16 (16 * a + k) = G 16 (16 * b + k) ∧ G 17 (16 * a + k) = G 17 (16 * b + k)
def LK (G : Nat → Nat → Int) (R : Nat → Nat → Prop) (a b : Nat) : Prop := Bs G a b ∧ (∀ k : Nat, (k : Int) < G 18 a → R (fo G a k) (fo G b k)) ∧ ∀ j p : Nat, (j : Int) ≤ G 18 a → p < np G a j → qn G a j p = qn G b j p
theorem LK.mono {R Q : Nat → Nat → Prop} {a b : Nat} (h : LK G R a b) (hq : ∀ x y : Nat, R x y → Q x y) : LK G Q a b := ⟨h.1, fun k hk => hq _ _ (h.2.1 k hk), h.2.2⟩
def AL (G : Nat → Nat → Int) (a b : Nat) : Prop := ∃ R : Nat → Nat → Prop, (∀ x y : Nat, R x y → (x : Int) < G 14 1 ∧ (y : Int) < G 14 1 ∧ LK G R x y) ∧ R a b
theorem AL.lk {a b : Nat} (h : AL G a b) : (a : Int) < G 14 1 ∧ (b : Int) < G 14 1 ∧ LK G (AL G) a b := by
  obtain ⟨R, hR9, h⟩ := h
  obtain ⟨h1, h2, h3⟩ := hR9 a b h
  exact ⟨h1, h2, h3.mono (fun x y q => ⟨R, hR9, q⟩)⟩
theorem AL.of {a b : Nat} (ha : (a : Int) < G 14 1) (hb : (b : Int) < G 14 1) (h : LK G (AL G) a b) : AL G a b := by
  refine ⟨fun x y => AL G x y ∨ (x = a ∧ y = b), fun x y q => ?_, Or.inr ⟨rfl, rfl⟩⟩
  rcases q with q | ⟨rfl, rfl⟩
  · obtain ⟨h1, h2, h3⟩ := q.lk
    exact ⟨h1, h2, h3.mono (fun _ _ z => Or.inl z)⟩
  · exact ⟨ha, hb, h.mono (fun _ _ z => Or.inl z)⟩
theorem AL.un (gi : GI G) {R : Nat → Nat → Prop} (hr : ∀ x y : Nat, (x : Int) < G 14 1 → (y : Int) < G 14 1 → (R x y ↔ LK G R x y)) {a b : Nat} (ha : (a : Int) < G 14 1) (hb : (b : Int) < G 14 1) : R a b ↔ AL G a b := by
  constructor
  · intro h
    refine ⟨fun x y => (x : Int) < G 14 1 ∧ (y : Int) < G 14 1 ∧ R x y, fun x y q => ⟨q.1, q.2.1, ?_⟩, ⟨ha, hb, h⟩⟩
    obtain ⟨l1, l2, l3⟩ := (hr x y q.1 q.2.1).mp q.2.2
    exact ⟨l1, fun k hk => ⟨(gi.fv q.1 hk).2, (gi.fv q.2.1 (by rw [← l1.2.1]; exact hk)).2, l2 k hk⟩, l3⟩
  · obtain ⟨rk, r1, r2⟩ := gi.rank
    have : ∀ n x y : Nat, (x : Int) < G 14 1 → (y : Int) < G 14 1 → rk x < n → AL G x y → R x y := by
      intro n
      induction n with
      | zero => intro x y _ _ h; omega
      | succ n ih =>
        intro x y hx hy h q
        obtain ⟨-, -, l1, l2, l3⟩ := q.lk
        refine (hr x y hx hy).mpr ⟨l1, fun k hk => ?_, l3⟩
        have := r2 x k hx hk
        exact ih _ _ (gi.fv hx hk).2 (gi.fv hy (by rw [← l1.2.1]; exact hk)).2 (by omega) (l2 k hk)
    exact this (rk a + 1) a b ha hb (by omega)
theorem bs_pcs {a b : Nat} (h : Bs G a b) : ∀ k : Nat, (k : Int) ≤ G 15 a → pcs G a k = pcs G b k := by
  intro k
  induction k with
  | zero => intro _; rfl
  | succ k ih =>
    intro hk
    simp only [pcs]
    rw [ih (by omega), (h.2.2.2 k (by omega)).1]
theorem bs_pc (gi : GI G) {a b : Nat} (ha : (a : Int) < G 14 1) (h : Bs G a b) : pc G a = pc G b := by
  have := (gi.pw ha).1
  unfold pc
  rw [bs_pcs h _ (by omega), h.1]
theorem Bs.sy {a b : Nat} (h : Bs G a b) : Bs G b a := ⟨h.1.symm, h.2.1.symm, h.2.2.1.symm, fun k hk => by
  have := h.2.2.2 k (by rw [h.1]; exact hk)
  exact ⟨this.1.symm, this.2.symm⟩⟩
theorem Bs.tr {a b c : Nat} (h : Bs G a b) (g : Bs G b c) : Bs G a c := ⟨h.1.trans g.1, h.2.1.trans g.2.1, h.2.2.1.trans g.2.2.1, fun k hk => by
  have h1 := h.2.2.2 k hk
  have h2 := g.2.2.2 k (by rw [← h.1]; exact hk)
  exact ⟨h1.1.trans h2.1, h1.2.trans h2.2⟩⟩
theorem al_np (gi : GI G) {a b : Nat} (h : AL G a b) {j : Nat} (hj : (j : Int) ≤ G 18 a) : np G a j = np G b j := by
  obtain ⟨ha, hb, l1, l2, -⟩ := h.lk
  unfold np
  by_cases c : j = 0
  · subst c
    exact congrArg Int.toNat (bs_pc gi ha l1)
  · have := l2 (j - 1) (by omega)
    obtain ⟨h1, h2, l3, -, -⟩ := this.lk
    unfold jm
    rw [if_neg c, if_neg c]
    exact congrArg Int.toNat (bs_pc gi h1 l3)
theorem AL.rf (gi : GI G) {a : Nat} (ha : (a : Int) < G 14 1) : AL G a a :=
  ⟨fun x y => (x : Int) < G 14 1 ∧ x = y, fun x y q => by
    obtain ⟨h1, rfl⟩ := q
    exact ⟨h1, h1, ⟨rfl, rfl, rfl, fun _ _ => ⟨rfl, rfl⟩⟩, fun k hk => ⟨(gi.fv h1 hk).2, rfl⟩, fun _ _ _ _ => rfl⟩, ⟨ha, rfl⟩⟩
theorem AL.sy (gi : GI G) {a b : Nat} (h : AL G a b) : AL G b a :=
  ⟨fun x y => AL G y x, fun x y q => by
    obtain ⟨h1, h2, l1, l2, l3⟩ := q.lk
    refine ⟨h2, h1, l1.sy, fun k hk => l2 k (by rw [l1.2.1]; exact hk), fun j p hj hp => (l3 j p (by rw [l1.2.1]; exact hj) ?_).symm⟩
    rw [al_np gi q (by rw [l1.2.1]; exact hj)]
    exact hp, h⟩
theorem AL.tr (gi : GI G) {a b c : Nat} (h : AL G a b) (g : AL G b c) : AL G a c :=
  ⟨fun x z => ∃ y, AL G x y ∧ AL G y z, fun x z q => by
    obtain ⟨y, q1, q2⟩ := q
    obtain ⟨h1, h2, l1, l2, l3⟩ := q1.lk
    obtain ⟨h3, h4, m1, m2, m3⟩ := q2.lk
    refine ⟨h1, h4, l1.tr m1, fun k hk => ⟨fo G y k, l2 k hk, m2 k (by rw [← l1.2.1]; exact hk)⟩, fun j p hj hp => (l3 j p hj hp).trans (m3 j p (by rw [← l1.2.1]; exact hj) ?_)⟩
    rw [← al_np gi q1 hj]
    exact hp, ⟨b, h, g⟩⟩
/-! the model -/
def Rn (T : AS) (x y : Nat) : Prop := hI T 35 (24 * x + y) = 1
def A35 (S T : AS) : Prop := ∃ J, T = stI S J ∧ ∀ a j, a ≠ 35 → J a j = hI S a j
theorem A35.rfl' (S : AS) : A35 S S := ⟨hI S, rfl, fun _ _ _ => rfl⟩
theorem A35.ok {T : AS} (h : A35 S T) (hf : Fix S) (g : Ag G S) : Fix T ∧ Ag G T ∧ MF S T ∧ hI T 14 0 = hI S 14 0 := by
  obtain ⟨J, rfl, hJ⟩ := h
  exact ⟨hf.st J, fun a j hc => (hJ a j (by unfold kor at hc; omega)).trans (g a j hc), ⟨J, rfl, fun a j ha => hJ a j (by omega)⟩, hJ 14 0 (by decide)⟩
theorem A35.w {T : AS} (h : A35 S T) (k : Nat) (v : Int) : A35 S (wI T 35 k v) := by
  obtain ⟨J, rfl, hJ⟩ := h
  exact ⟨uq J 35 k v, rfl, fun b j h1 => (uq_ne (by omega)).trans (hJ b j h1)⟩
theorem look_242 (h : Fix S) (g : Ag G S) (gi : GI G) {a b j : Nat} (ha : (a : Int) < G 14 1) (hb : (b : Int) < G 14 1) (hj : (j : Int) ≤ G 18 a) (k196 : Option Nat → Int → Int → Int → Int → AS → Option RS) : ∀ (d p fu : Nat), np G a j = p + d → d < fu → ∃ v : Int, f_X6_looksAlike_242 fu k196 (some 14) a b 1 ((j : Int) - 1) (np G a j) p S = k196 (some 14) a b v j S ∧ (v = 0 ∨ v = 1) ∧ (v = 1 ↔ ∀ q, p ≤ q → q < np G a j → qn G a j q = qn G b j q) := by
  have la := gi.lt ha
  have lb := gi.lt hb
  have ni := gi.ni ha
  have n1 := (np_le gi ha hj).1
  intro d
  induction d with
  | zero =>
    intro p fu hp hf
    obtain ⟨fu, rfl⟩ : ∃ z, fu = z + 1 := ⟨fu - 1, by omega⟩
    refine ⟨1, ?_, Or.inr rfl, ⟨fun _ q h1 h2 => by omega, fun _ => rfl⟩⟩
    unfold f_X6_looksAlike_242
    rw [if_pos (by omega), chk_ok (by omega) (by omega), Option.bind_some, show (j : Int) - 1 + 1 = j by omega]
  | succ d ih =>
    intro p fu hp hf
    obtain ⟨fu, rfl⟩ : ∃ z, fu = z + 1 := ⟨fu - 1, by omega⟩
    have l1 : 8320 * a + 128 * jb j + p < 199680 := by unfold jb; split <;> omega
    have l2 : 8320 * b + 128 * jb j + p < 199680 := by unfold jb; split <;> omega
    have e0 : f_X6_looksAlike_242 (fu + 1) k196 (some 14) a b 1 ((j : Int) - 1) (np G a j) p S = if qn G a j p = qn G b j p then f_X6_looksAlike_242 fu k196 (some 14) a b 1 ((j : Int) - 1) (np G a j) ((p + 1 : Nat) : Int) S else f_X6_looksAlike_242 fu k196 (some 14) a b 0 ((j : Int) - 1) (np G a j) ((p + 1 : Nat) : Int) S := by
      conv => lhs; unfold f_X6_looksAlike_242
      rw [if_neg (by omega), if_neg (by decide), fr_14_10 h, Option.bind_some, at_eq (by omega) (by omega) (by omega), cI_s, ma_22 h g (by omega) (by omega), Option.bind_some, fr_14_10 h, Option.bind_some, at_eq (by omega) (by omega) (by omega), cI_s, ma_22 h g (by omega) (by omega), Option.bind_some, tn, tn, chk_ok (by omega) (by omega), Option.bind_some, Option.bind_some]
      rfl
    by_cases c : qn G a j p = qn G b j p
    · obtain ⟨v, e, v1, v2⟩ := ih (p + 1) fu (by omega) (by omega)
      refine ⟨v, by rw [e0, if_pos c, e], v1, v2.trans ⟨fun w q h1 h2 => ?_, fun w q h1 h2 => w q (by omega) h2⟩⟩
      by_cases c2 : q = p
      · rw [c2]; exact c
      · exact w q (by omega) h2
    · refine ⟨0, ?_, Or.inl rfl, ⟨fun q => by omega, fun w => absurd (w p (Nat.le_refl _) (by omega)) c⟩⟩
      rw [e0, if_neg c]
      obtain ⟨fu, rfl⟩ : ∃ z, fu = z + 1 := ⟨fu - 1, by omega⟩
      conv => lhs; unfold f_X6_looksAlike_242
      by_cases c2 : ((np G a j : Nat) : Int) ≤ ((p + 1 : Nat) : Int)
      · rw [if_pos c2, chk_ok (by omega) (by omega), Option.bind_some, show (j : Int) - 1 + 1 = j by omega]
      · rw [if_neg c2, if_pos rfl, chk_ok (by omega) (by omega), Option.bind_some, show (j : Int) - 1 + 1 = j by omega]
theorem look_196 (h : Fix S) (g : Ag G S) (gi : GI G) {a b : Nat} (ha : (a : Int) < G 14 1) (hb : (b : Int) < G 14 1) : ∀ (d j fu : Nat), (G 18 a).toNat + 1 = j + d → d + 1 < fu → ∃ v : Int, f_X6_looksAlike_196 fu (some 14) a b 1 ((j : Int) - 1) S = some ((0, v, none), S) ∧ (v = 0 ∨ v = 1) ∧ (v = 1 ↔ ∀ i p : Nat, j ≤ i → (i : Int) ≤ G 18 a → p < np G a i → qn G a i p = qn G b i p) := by
  have la := gi.lt ha
  have ni := gi.ni ha
  intro d
  induction d with
  | zero =>
    intro j fu hj hf
    obtain ⟨fu, rfl⟩ : ∃ z, fu = z + 1 := ⟨fu - 1, by omega⟩
    refine ⟨1, ?_, Or.inr rfl, ⟨fun _ i p h1 h2 => by omega, fun _ => rfl⟩⟩
    unfold f_X6_looksAlike_196
    rw [fr_14_5 h, Option.bind_some, ma_18 h g (by omega) (by omega), Option.bind_some, tn, if_pos (by omega), rZ_1]
  | succ d ih =>
    intro j fu hj hf
    obtain ⟨fu, rfl⟩ : ∃ z, fu = z + 1 := ⟨fu - 1, by omega⟩
    have hja : (j : Int) ≤ G 18 a := by omega
    have n1 := np_le gi ha hja
    have lj := jm_lt gi ha hja
    obtain ⟨v, e1, v1, v2⟩ := look_242 h g gi ha hb hja (f_X6_looksAlike_196 fu) (np G a j) 0 FU (by omega) (FU_gt (by omega))
    have e0 : f_X6_looksAlike_196 (fu + 1) (some 14) a b 1 ((j : Int) - 1) S = f_X6_looksAlike_196 fu (some 14) a b v j S := by
      rw [← e1]
      conv => lhs; unfold f_X6_looksAlike_196
      rw [fr_14_5 h, Option.bind_some, ma_18 h g (by omega) (by omega), Option.bind_some, tn, if_neg (by omega), if_neg (by decide)]
      have st : f_X6_looksAlike_234 (f_X6_looksAlike_196 fu) (some 14) a b 1 ((j : Int) - 1) (jm G a j) (some 14) S = f_X6_looksAlike_242 FU (f_X6_looksAlike_196 fu) (some 14) a b 1 ((j : Int) - 1) (np G a j) ((0 : Nat) : Int) S := by
        unfold f_X6_looksAlike_234
        rw [fk_14 h, gd_1, ownPins_eq h g (gi.lt lj) (gi.pw lj), cI_s, n1.2]
        rfl
      by_cases c : j = 0
      · rw [if_pos (by omega), ← st]
        subst c
        rfl
      · have ek : (64 * (a : Int) + ((j : Int) - 1)).toNat = 64 * a + (j - 1) := by omega
        rw [if_neg (by omega), fr_14_6 h, Option.bind_some, chk_ok (by omega) (by omega), Option.bind_some, chk_ok (by omega) (by omega), Option.bind_some, ma_19 h g (by omega) (by omega), Option.bind_some, ek, (gi.fv ha (k := j - 1) (by omega)).1, ← st]
        unfold jm
        rw [if_neg c]
    rw [e0]
    rcases v1 with z | z
    · subst z
      refine ⟨0, ?_, Or.inl rfl, ⟨fun q => by omega, fun w => ?_⟩⟩
      · obtain ⟨fu, rfl⟩ : ∃ z, fu = z + 1 := ⟨fu - 1, by omega⟩
        unfold f_X6_looksAlike_196
        rw [fr_14_5 h, Option.bind_some, ma_18 h g (by omega) (by omega), Option.bind_some, tn, if_pos (c := (0 : Int) = 0) rfl, rZ_0]
        split <;> rfl
      · exact v2.mpr (fun q _ h2 => w j q (Nat.le_refl _) hja h2)
    · subst z
      obtain ⟨u, e3, u1, u2⟩ := ih (j + 1) fu (by omega) (by omega)
      refine ⟨u, ?_, u1, u2.trans ⟨fun w i p h1 h2 h3 => ?_, fun w i p h1 h2 h3 => w i p (by omega) h2 h3⟩⟩
      · rw [← e3]
        congr 1
        omega
      · by_cases c : i = j
        · subst c
          exact v2.mp rfl p (Nat.zero_le _) h3
        · exact w i p (by omega) h2 h3
theorem look_z (h : Fix S) (g : Ag G S) {a b : Nat} (la : a < 24) (k : Int) : ∀ fu, 0 < fu → f_X6_looksAlike_138 fu (some 14) a b 0 k S = some ((0, 0, none), S) := by
  intro fu hf
  obtain ⟨fu, rfl⟩ : ∃ z, fu = z + 1 := ⟨fu - 1, by omega⟩
  have z : f_X6_looksAlike_193 (some 14) a b 0 S = some ((0, 0, none), S) := by
    unfold f_X6_looksAlike_193
    obtain ⟨fu2, hfu⟩ : ∃ z, FU = z + 1 := ⟨FU - 1, by have := FU_gt (n := 0) (by decide); omega⟩
    rw [hfu]
    unfold f_X6_looksAlike_196
    rw [fr_14_5 h, Option.bind_some, ma_18 h g (by omega) (by omega), Option.bind_some, if_pos (c := (0 : Int) = 0) rfl, rZ_0]
    split <;> rfl
  unfold f_X6_looksAlike_138
  rw [fr_14_5 h, Option.bind_some, ma_18 h g (by omega) (by omega), Option.bind_some, if_pos (c := (0 : Int) = 0) rfl, z]
  split <;> rfl
theorem look_138 (h : Fix S) (g : Ag G S) (gi : GI G) {a b : Nat} (ha : (a : Int) < G 14 1) (hb : (b : Int) < G 14 1) (h18 : G 18 a = G 18 b) (h01 : ∀ j, j < 576 → hI S 35 j = 0 ∨ hI S 35 j = 1) : ∀ (d k fu : Nat), (G 18 a).toNat = k + d → d + 1 < fu → ∃ v : Int, f_X6_looksAlike_138 fu (some 14) a b 1 k S = some ((0, v, none), S) ∧ (v = 0 ∨ v = 1) ∧ (v = 1 ↔ (∀ i : Nat, k ≤ i → (i : Int) < G 18 a → Rn S (fo G a i) (fo G b i)) ∧ ∀ i p : Nat, (i : Int) ≤ G 18 a → p < np G a i → qn G a i p = qn G b i p) := by
  have la := gi.lt ha
  have lb := gi.lt hb
  have ni := gi.ni ha
  intro d
  induction d with
  | zero =>
    intro k fu hk hf
    obtain ⟨fu, rfl⟩ : ∃ z, fu = z + 1 := ⟨fu - 1, by omega⟩
    obtain ⟨v, e, v1, v2⟩ := look_196 h g gi ha hb ((G 18 a).toNat + 1) 0 FU (by omega) (FU_gt (by omega))
    refine ⟨v, ?_, v1, v2.trans ⟨fun w => ⟨fun i h1 h2 => by omega, fun i p h1 h2 => w i p (Nat.zero_le _) h1 h2⟩, fun w i p _ h1 h2 => w.2 i p h1 h2⟩⟩
    unfold f_X6_looksAlike_138
    rw [fr_14_5 h, Option.bind_some, ma_18 h g (by omega) (by omega), Option.bind_some, tn, if_pos (by omega)]
    exact e
  | succ d ih =>
    intro k fu hk hf
    obtain ⟨fu, rfl⟩ : ∃ z, fu = z + 1 := ⟨fu - 1, by omega⟩
    have hka : (k : Int) < G 18 a := by omega
    have f1 := gi.fv ha hka
    have f2 := gi.fv hb (k := k) (by omega)
    have l1 := gi.lt f1.2
    have l2 := gi.lt f2.2
    have e1 : (64 * (a : Int) + (k : Int)).toNat = 64 * a + k := by omega
    have e2 : (64 * (b : Int) + (k : Int)).toNat = 64 * b + k := by omega
    have e3 : (24 * (fo G a k : Int) + (fo G b k : Int)).toNat = 24 * fo G a k + fo G b k := by omega
    have e0 : f_X6_looksAlike_138 (fu + 1) (some 14) a b 1 k S = f_X6_looksAlike_138 fu (some 14) a b (hI S 35 (24 * fo G a k + fo G b k)) ((k + 1 : Nat) : Int) S := by
      conv => lhs; unfold f_X6_looksAlike_138
      rw [fr_14_5 h, Option.bind_some, ma_18 h g (by omega) (by omega), Option.bind_some, tn, if_neg (by omega), if_neg (by decide), fr_14_25 h, Option.bind_some, fr_14_6 h, Option.bind_some, chk_ok (x := 64 * (a : Int)) (by omega) (by omega), Option.bind_some, chk_ok (x := 64 * (a : Int) + (k : Int)) (by omega) (by omega), Option.bind_some, ma_19 h g (by omega) (by omega), Option.bind_some, e1, f1.1, chk_ok (x := 24 * (fo G a k : Int)) (by omega) (by omega), Option.bind_some, Option.bind_some, chk_ok (x := 64 * (b : Int)) (by omega) (by omega), Option.bind_some, chk_ok (x := 64 * (b : Int) + (k : Int)) (by omega) (by omega), Option.bind_some, ma_19 h g (by omega) (by omega), Option.bind_some, e2, f2.1, chk_ok (x := 24 * (fo G a k : Int) + (fo G b k : Int)) (by omega) (by omega), Option.bind_some, fa_35 h (by omega) (by omega), Option.bind_some, e3, chk_ok (by omega) (by omega), Option.bind_some]
      rfl
    rw [e0]
    rcases h01 (24 * fo G a k + fo G b k) (by omega) with z | z
    · refine ⟨0, by rw [z]; exact look_z h g la _ _ (by omega), Or.inl rfl, ⟨fun q => by omega, fun w => ?_⟩⟩
      have := w.1 k (Nat.le_refl _) hka
      unfold Rn at this
      omega
    · rw [z]
      obtain ⟨v, e, v1, v2⟩ := ih (k + 1) fu (by omega) (by omega)
      refine ⟨v, e, v1, v2.trans ⟨fun w => ⟨fun i h1 h2 => ?_, w.2⟩, fun w => ⟨fun i h1 h2 => w.1 i (by omega) h2, w.2⟩⟩⟩
      by_cases c : i = k
      · subst c; exact z
      · exact w.1 i (by omega) h2
theorem look_y (h : Fix S) (g : Ag G S) {a b : Nat} (la : a < 24) (k : Int) : ∀ fu, 0 < fu → f_X6_looksAlike_54 fu (some 14) a b 0 k S = some ((0, 0, none), S) := by
  intro fu hf
  obtain ⟨fu, rfl⟩ : ∃ z, fu = z + 1 := ⟨fu - 1, by omega⟩
  have z : f_X6_looksAlike_135 (some 14) a b 0 S = some ((0, 0, none), S) := look_z h g la 0 FU (FU_gt (by decide))
  unfold f_X6_looksAlike_54
  rw [fr_14_2 h, Option.bind_some, ma_15 h g (by omega) (by omega), Option.bind_some, if_pos (c := (0 : Int) = 0) rfl, z]
  split <;> rfl
theorem look_54 (h : Fix S) (g : Ag G S) (gi : GI G) {a b : Nat} (ha : (a : Int) < G 14 1) (hb : (b : Int) < G 14 1) (h18 : G 18 a = G 18 b) (h01 : ∀ j, j < 576 → hI S 35 j = 0 ∨ hI S 35 j = 1) : ∀ (d k fu : Nat), (G 15 a).toNat = k + d → d + 1 < fu → ∃ v : Int, f_X6_looksAlike_54 fu (some 14) a b 1 k S = some ((0, v, none), S) ∧ (v = 0 ∨ v = 1) ∧ (v = 1 ↔ (∀ i : Nat, k ≤ i → (i : Int) < G 15 a → G 16 (16 * a + i) = G 16 (16 * b + i) ∧ G 17 (16 * a + i) = G 17 (16 * b + i)) ∧ (∀ i : Nat, (i : Int) < G 18 a → Rn S (fo G a i) (fo G b i)) ∧ ∀ i p : Nat, (i : Int) ≤ G 18 a → p < np G a i → qn G a i p = qn G b i p) := by
  have la := gi.lt ha
  have lb := gi.lt hb
  have ni := gi.ni ha
  have nw := gi.pw ha
  have nw1 := nw.1
  have nw2 := nw.2.1
  intro d
  induction d with
  | zero =>
    intro k fu hk hf
    obtain ⟨fu, rfl⟩ : ∃ z, fu = z + 1 := ⟨fu - 1, by omega⟩
    obtain ⟨v, e, v1, v2⟩ := look_138 h g gi ha hb h18 h01 (G 18 a).toNat 0 FU (by omega) (FU_gt (by omega))
    refine ⟨v, ?_, v1, v2.trans ⟨fun w => ⟨fun i h1 h2 => by omega, fun i h1 => w.1 i (Nat.zero_le _) h1, w.2⟩, fun w => ⟨fun i _ h1 => w.2.1 i h1, w.2.2⟩⟩⟩
    unfold f_X6_looksAlike_54
    rw [fr_14_2 h, Option.bind_some, ma_15 h g (by omega) (by omega), Option.bind_some, tn, if_pos (by omega)]
    exact e
  | succ d ih =>
    intro k fu hk hf
    obtain ⟨fu, rfl⟩ : ∃ z, fu = z + 1 := ⟨fu - 1, by omega⟩
    have e1 : (16 * (a : Int) + (k : Int)).toNat = 16 * a + k := by omega
    have e2 : (16 * (b : Int) + (k : Int)).toNat = 16 * b + k := by omega
    have st : f_X6_looksAlike_127 (f_X6_looksAlike_54 fu) (some 14) a b k S = some ((0, 0, none), S) := by
      unfold f_X6_looksAlike_127
      rw [chk_ok (by omega) (by omega), Option.bind_some]
      exact look_y h g la _ _ (by omega)
    have e0 : f_X6_looksAlike_54 (fu + 1) (some 14) a b 1 k S = if G 16 (16 * a + k) = G 16 (16 * b + k) then (if G 17 (16 * a + k) = G 17 (16 * b + k) then f_X6_looksAlike_54 fu (some 14) a b 1 ((k + 1 : Nat) : Int) S else some ((0, 0, none), S)) else some ((0, 0, none), S) := by
      conv => lhs; unfold f_X6_looksAlike_54
      rw [fr_14_2 h, Option.bind_some, ma_15 h g (by omega) (by omega), Option.bind_some, tn, if_neg (by omega), if_neg (by decide), fr_14_3 h, Option.bind_some, chk_ok (x := 16 * (a : Int)) (by omega) (by omega), Option.bind_some, chk_ok (x := 16 * (a : Int) + (k : Int)) (by omega) (by omega), Option.bind_some, ma_16 h g (by omega) (by omega), Option.bind_some, e1, Option.bind_some, chk_ok (x := 16 * (b : Int)) (by omega) (by omega), Option.bind_some, chk_ok (x := 16 * (b : Int) + (k : Int)) (by omega) (by omega), Option.bind_some, ma_16 h g (by omega) (by omega), Option.bind_some, e2, st, fr_14_4 h, Option.bind_some, Option.bind_some, chk_ok (x := 16 * (a : Int) + (k : Int)) (by omega) (by omega), Option.bind_some, ma_17 h g (by omega) (by omega), Option.bind_some, e1, Option.bind_some, Option.bind_some, chk_ok (x := 16 * (b : Int) + (k : Int)) (by omega) (by omega), Option.bind_some, ma_17 h g (by omega) (by omega), Option.bind_some, e2, chk_ok (by omega) (by omega), Option.bind_some]
      rfl
    rw [e0]
    by_cases c1 : G 16 (16 * a + k) = G 16 (16 * b + k)
    · by_cases c2 : G 17 (16 * a + k) = G 17 (16 * b + k)
      · rw [if_pos c1, if_pos c2]
        obtain ⟨v, e, v1, v2⟩ := ih (k + 1) fu (by omega) (by omega)
        refine ⟨v, e, v1, v2.trans ⟨fun w => ⟨fun i h1 h2 => ?_, w.2⟩, fun w => ⟨fun i h1 h2 => w.1 i (by omega) h2, w.2⟩⟩⟩
        by_cases c : i = k
        · subst c; exact ⟨c1, c2⟩
        · exact w.1 i (by omega) h2
      · rw [if_pos c1, if_neg c2]
        exact ⟨0, rfl, Or.inl rfl, ⟨fun q => by omega, fun w => absurd (w.1 k (Nat.le_refl _) (by omega)).2 c2⟩⟩
    · rw [if_neg c1]
      exact ⟨0, rfl, Or.inl rfl, ⟨fun q => by omega, fun w => absurd (w.1 k (Nat.le_refl _) (by omega)).1 c1⟩⟩
theorem look_eq (h : Fix S) (g : Ag G S) (gi : GI G) {a b : Nat} (ha : (a : Int) < G 14 1) (hb : (b : Int) < G 14 1) (h01 : ∀ j, j < 576 → hI S 35 j = 0 ∨ hI S 35 j = 1) : ∃ v : Int, f_X6_looksAlike (some 14) a b S = some ((0, v, none), S) ∧ (v = 0 ∨ v = 1) ∧ (v = 1 ↔ LK G (Rn S) a b) := by
  have la := gi.lt ha
  have lb := gi.lt hb
  have nw1 := (gi.pw ha).1
  have nw2 := (gi.pw ha).2.1
  have bad : f_X6_looksAlike_49 (some 14) a b S = some ((0, 0, none), S) := look_y h g la 0 FU (FU_gt (by decide))
  unfold f_X6_looksAlike
  rw [fr_14_2 h, Option.bind_some, ma_15 h g (by omega) (by omega), Option.bind_some, Option.bind_some, ma_15 h g (by omega) (by omega), Option.bind_some, fr_14_5 h, Option.bind_some, ma_18 h g (by omega) (by omega), Option.bind_some, Option.bind_some, ma_18 h g (by omega) (by omega), Option.bind_some, fr_14_7 h, Option.bind_some, ma_20 h g (by omega) (by omega), Option.bind_some, Option.bind_some, ma_20 h g (by omega) (by omega), Option.bind_some, bad]
  simp only [tn]
  by_cases c1 : G 15 a = G 15 b
  · by_cases c2 : G 18 a = G 18 b
    · by_cases c3 : G 20 a = G 20 b
      · rw [if_pos c1, if_pos c2, if_pos c3]
        obtain ⟨v, e, v1, v2⟩ := look_54 h g gi ha hb c2 h01 (G 15 a).toNat 0 FU (by omega) (FU_gt (by omega))
        exact ⟨v, e, v1, v2.trans ⟨fun w => ⟨⟨c1, c2, c3, fun k hk => w.1 k (Nat.zero_le _) hk⟩, w.2.1, w.2.2⟩, fun w => ⟨fun k _ hk => w.1.2.2.2 k hk, w.2.1, w.2.2⟩⟩⟩
      · rw [if_pos c1, if_pos c2, if_neg c3]
        exact ⟨0, rfl, Or.inl rfl, ⟨fun q => by omega, fun w => absurd w.1.2.2.1 c3⟩⟩
    · rw [if_pos c1, if_neg c2]
      exact ⟨0, rfl, Or.inl rfl, ⟨fun q => by omega, fun w => absurd w.1.2.1 c2⟩⟩
  · rw [if_neg c1]
    exact ⟨0, rfl, Or.inl rfl, ⟨fun q => by omega, fun w => absurd w.1.1 c1⟩⟩
/-- what findAlike keeps -/
def FA (G : Nat → Nat → Int) (S T : AS) : Prop := A35 S T ∧ (∀ j, j < 576 → hI T 35 j = 0 ∨ hI T 35 j = 1) ∧ ∀ a b : Nat, (a : Int) < G 14 1 → (b : Int) < G 14 1 → LK G (Rn T) a b → Rn T a b
def ct (T : AS) : Nat := cnt (fun j => decide (hI T 35 j = 1)) 576
theorem find_42 (h : Fix S) (g : Ag G S) (gi : GI G) {a : Nat} (ha : (a : Int) < G 14 1) (k24 : Option Nat → Int → AS → Option RS) (k32 : Option Nat → Int → Int → AS → Option RS) : ∀ (d b fu : Nat) (T : AS) (mo : Int), (G 14 1).toNat = b + d → d < fu → FA G S T → (mo = 0 ∨ mo = 1) → ∃ T' mo', f_X6_findAlike_42 fu k24 k32 (some 14) mo a b T = k32 (some 14) mo' ((a : Int) + 1) T' ∧ FA G S T' ∧ (mo' = 0 ∨ mo' = 1) ∧ ct T' ≤ ct T ∧ (mo' = 1 → mo = 1 ∨ ct T' < ct T) ∧ (mo' = 0 → mo = 0 ∧ T' = T ∧ ∀ y : Nat, b ≤ y → (y : Int) < G 14 1 → Rn T a y → LK G (Rn T) a y) := by
  have la := gi.lt ha
  have l0 := gi.1
  intro d
  induction d with
  | zero =>
    intro b fu T mo hb hf fa hmo
    obtain ⟨fu, rfl⟩ : ∃ z, fu = z + 1 := ⟨fu - 1, by omega⟩
    obtain ⟨fT, gT, -, -⟩ := fa.1.ok h g
    refine ⟨T, mo, ?_, fa, hmo, Nat.le_refl _, fun q => Or.inl q, fun q => ⟨q, rfl, fun y h1 h2 => by omega⟩⟩
    unfold f_X6_findAlike_42
    rw [mg_1 fT gT, Option.bind_some, if_pos (by omega), chk_ok (by omega) (by omega), Option.bind_some]
  | succ d ih =>
    intro b fu T mo hb hf fa hmo
    obtain ⟨fu, rfl⟩ : ∃ z, fu = z + 1 := ⟨fu - 1, by omega⟩
    obtain ⟨fT, gT, -, -⟩ := fa.1.ok h g
    have hbm : (b : Int) < G 14 1 := by omega
    have lb := gi.lt hbm
    have e1 : (24 * (a : Int) + (b : Int)).toNat = 24 * a + b := by omega
    obtain ⟨v, ev, v1, v2⟩ := look_eq fT gT gi ha hbm fa.2.1
    have e0 : f_X6_findAlike_42 (fu + 1) k24 k32 (some 14) mo a b T = if hI T 35 (24 * a + b) = 0 then f_X6_findAlike_42 fu k24 k32 (some 14) mo a ((b + 1 : Nat) : Int) T else if v = 0 then f_X6_findAlike_42 fu k24 k32 (some 14) 1 a ((b + 1 : Nat) : Int) (wI T 35 (24 * a + b) 0) else f_X6_findAlike_42 fu k24 k32 (some 14) mo a ((b + 1 : Nat) : Int) T := by
      conv => lhs; unfold f_X6_findAlike_42
      rw [mg_1 fT gT, Option.bind_some, if_neg (by omega), fr_14_25 fT, Option.bind_some, chk_ok (x := 24 * (a : Int)) (by omega) (by omega), Option.bind_some, chk_ok (x := 24 * (a : Int) + (b : Int)) (by omega) (by omega), Option.bind_some, fa_35 fT (by omega) (by omega), Option.bind_some, e1, fk_14 fT, gd_1, ev, cI_s, fr_14_25 fT, Option.bind_some, Option.bind_some, chk_ok (x := 24 * (a : Int) + (b : Int)) (by omega) (by omega), Option.bind_some, fs_35 fT (Or.inl rfl) (by omega) (by omega), Option.bind_some, e1, chk_ok (x := (b : Int) + 1) (by omega) (by omega), Option.bind_some, Option.bind_some]
      rfl
    by_cases c0 : hI T 35 (24 * a + b) = 0
    · obtain ⟨T', mo', e2, f2, m2, c2, w2, z2⟩ := ih (b + 1) fu T mo (by omega) (by omega) fa hmo
      refine ⟨T', mo', by rw [e0, if_pos c0, e2], f2, m2, c2, w2, fun q => ?_⟩
      obtain ⟨q1, q2, q3⟩ := z2 q
      refine ⟨q1, q2, fun y h1 h2 h3 => ?_⟩
      by_cases c : y = b
      · subst c; unfold Rn at h3; omega
      · exact q3 y (by omega) h2 h3
    · by_cases c1 : v = 0
      · have nl : ¬ LK G (Rn T) a b := fun q => by have := v2.mpr q; omega
        obtain ⟨U, hU⟩ : ∃ U, U = wI T 35 (24 * a + b) 0 := ⟨_, rfl⟩
        have u5 : ∀ j, hI U 35 j = if j = 24 * a + b then 0 else hI T 35 j := fun j => by
          rw [hU, hI_wI]
          by_cases c : j = 24 * a + b
          · rw [if_pos ⟨rfl, c⟩, if_pos c]
          · rw [if_neg (by omega), if_neg c]
        have sub : ∀ x y, Rn U x y → Rn T x y := fun x y q => by
          unfold Rn at q ⊢
          rw [u5] at q
          split at q
          · omega
          · exact q
        have fU : FA G S U := by
          refine ⟨by rw [hU]; exact fa.1.w _ _, fun j hj => ?_, fun x y hx hy q => ?_⟩
          · rw [u5]
            split
            · exact Or.inl rfl
            · exact fa.2.1 j hj
          · have q' := q.mono sub
            have r := fa.2.2 x y hx hy q'
            unfold Rn
            rw [u5, if_neg]
            · exact r
            · intro e
              have lx := gi.lt hx
              have ly := gi.lt hy
              have : x = a ∧ y = b := by omega
              obtain ⟨rfl, rfl⟩ := this
              exact nl q'
        have lt : ct U < ct T := cnt_lt (j := 24 * a + b) (fun k hk q => by
          simp at q ⊢
          rw [u5] at q
          split at q
          · omega
          · exact q) (by omega) (by simp [u5]) (by
          simp
          rcases fa.2.1 (24 * a + b) (by omega) with z | z
          · exact absurd z c0
          · exact z)
        obtain ⟨T', mo', e2, f2, m2, c2, w2, z2⟩ := ih (b + 1) fu U 1 (by omega) (by omega) fU (Or.inr rfl)
        refine ⟨T', mo', by rw [e0, if_neg c0, if_pos c1, ← hU, e2], f2, m2, by omega, fun _ => Or.inr (by omega), fun q => ?_⟩
        have := (z2 q).1
        omega
      · have l1 : LK G (Rn T) a b := v2.mp (by omega)
        obtain ⟨T', mo', e2, f2, m2, c2, w2, z2⟩ := ih (b + 1) fu T mo (by omega) (by omega) fa hmo
        refine ⟨T', mo', by rw [e0, if_neg c0, if_neg c1, e2], f2, m2, c2, w2, fun q => ?_⟩
        obtain ⟨q1, q2, q3⟩ := z2 q
        refine ⟨q1, q2, fun y h1 h2 h3 => ?_⟩
        by_cases c : y = b
        · subst c; exact l1
        · exact q3 y (by omega) h2 h3
theorem find_32 (h : Fix S) (g : Ag G S) (gi : GI G) (k24 : Option Nat → Int → AS → Option RS) : ∀ (d a fu : Nat) (T : AS) (mo : Int), (G 14 1).toNat = a + d → d < fu → FA G S T → (mo = 0 ∨ mo = 1) → ∃ T' mo', f_X6_findAlike_32 fu k24 (some 14) mo a T = k24 (some 14) mo' T' ∧ FA G S T' ∧ (mo' = 0 ∨ mo' = 1) ∧ ct T' ≤ ct T ∧ (mo' = 1 → mo = 1 ∨ ct T' < ct T) ∧ (mo' = 0 → mo = 0 ∧ T' = T ∧ ∀ x y : Nat, a ≤ x → (x : Int) < G 14 1 → (y : Int) < G 14 1 → Rn T x y → LK G (Rn T) x y) := by
  have l0 := gi.1
  intro d
  induction d with
  | zero =>
    intro a fu T mo ha hf fa hmo
    obtain ⟨fu, rfl⟩ : ∃ z, fu = z + 1 := ⟨fu - 1, by omega⟩
    obtain ⟨fT, gT, -, -⟩ := fa.1.ok h g
    refine ⟨T, mo, ?_, fa, hmo, Nat.le_refl _, fun q => Or.inl q, fun q => ⟨q, rfl, fun x y h1 h2 => by omega⟩⟩
    unfold f_X6_findAlike_32
    rw [mg_1 fT gT, Option.bind_some, if_pos (by omega)]
  | succ d ih =>
    intro a fu T mo ha hf fa hmo
    obtain ⟨fu, rfl⟩ : ∃ z, fu = z + 1 := ⟨fu - 1, by omega⟩
    obtain ⟨fT, gT, -, -⟩ := fa.1.ok h g
    have ham : (a : Int) < G 14 1 := by omega
    obtain ⟨T1, mo1, e1, f1, m1, c1, w1, z1⟩ := find_42 h g gi ham k24 (f_X6_findAlike_32 fu k24) (G 14 1).toNat 0 FU T mo (by omega) (FU_gt (by omega)) fa hmo
    obtain ⟨T', mo', e2, f2, m2, c2, w2, z2⟩ := ih (a + 1) fu T1 mo1 (by omega) (by omega) f1 m1
    refine ⟨T', mo', ?_, f2, m2, by omega, fun q => ?_, fun q => ?_⟩
    · conv => lhs; unfold f_X6_findAlike_32
      rw [mg_1 fT gT, Option.bind_some, if_neg (by omega)]
      exact e1.trans e2
    · rcases w2 q with z | z
      · rcases w1 z with y | y
        · exact Or.inl y
        · exact Or.inr (by omega)
      · exact Or.inr (by omega)
    · obtain ⟨q1, q2, q3⟩ := z2 q
      obtain ⟨p1, p2, p3⟩ := z1 q1
      subst p2
      refine ⟨p1, q2, fun x y h1 h2 h3 h4 => ?_⟩
      by_cases c : x = a
      · subst c; exact p3 y (Nat.zero_le _) h3 h4
      · exact q3 x y (by omega) h2 h3 h4
theorem find_24 (h : Fix S) (g : Ag G S) (gi : GI G) : ∀ (e fu : Nat) (T : AS), ct T ≤ e → e + 1 < fu → FA G S T → ∃ T', f_X6_findAlike_24 fu (some 14) 1 T = some ((0, 0, none), T') ∧ FA G S T' ∧ ∀ a b : Nat, (a : Int) < G 14 1 → (b : Int) < G 14 1 → (Rn T' a b ↔ AL G a b) := by
  have l0 := gi.1
  intro e
  induction e with
  | zero =>
    intro fu T he hf fa
    obtain ⟨fu, rfl⟩ : ∃ z, fu = z + 1 := ⟨fu - 1, by omega⟩
    obtain ⟨fu, rfl⟩ : ∃ z, fu = z + 1 := ⟨fu - 1, by omega⟩
    obtain ⟨T1, mo1, e1, f1, m1, c1, w1, z1⟩ := find_32 h g gi (f_X6_findAlike_24 (fu + 1)) (G 14 1).toNat 0 FU T 0 (by omega) (FU_gt (by omega)) fa (Or.inl rfl)
    have m0 : mo1 = 0 := by
      rcases m1 with z | z
      · exact z
      · rcases w1 z with y | y <;> omega
    obtain ⟨-, rfl, q3⟩ := z1 m0
    refine ⟨T1, ?_, f1, fun a b ha hb => AL.un gi (fun x y hx hy => ⟨fun q => q3 x y (Nat.zero_le _) hx hy q, fun q => f1.2.2 x y hx hy q⟩) ha hb⟩
    conv => lhs; unfold f_X6_findAlike_24
    rw [if_neg (by decide)]
    refine Eq.trans e1 ?_
    rw [m0]
    unfold f_X6_findAlike_24
    rw [if_pos rfl, rV_s]
  | succ e ih =>
    intro fu T he hf fa
    obtain ⟨fu, rfl⟩ : ∃ z, fu = z + 1 := ⟨fu - 1, by omega⟩
    obtain ⟨T1, mo1, e1, f1, m1, c1, w1, z1⟩ := find_32 h g gi (f_X6_findAlike_24 fu) (G 14 1).toNat 0 FU T 0 (by omega) (FU_gt (by omega)) fa (Or.inl rfl)
    have e2 : f_X6_findAlike_24 (fu + 1) (some 14) 1 T = f_X6_findAlike_24 fu (some 14) mo1 T1 := by
      conv => lhs; unfold f_X6_findAlike_24
      rw [if_neg (by decide)]
      exact e1
    rcases m1 with m0 | m0
    · obtain ⟨-, rfl, q3⟩ := z1 m0
      obtain ⟨fu, rfl⟩ : ∃ z, fu = z + 1 := ⟨fu - 1, by omega⟩
      refine ⟨T1, ?_, f1, fun a b ha hb => AL.un gi (fun x y hx hy => ⟨fun q => q3 x y (Nat.zero_le _) hx hy q, fun q => f1.2.2 x y hx hy q⟩) ha hb⟩
      rw [e2, m0]
      unfold f_X6_findAlike_24
      rw [if_pos rfl, rV_s]
    · have : ct T1 < ct T := by
        rcases w1 m0 with y | y
        · omega
        · exact y
      rw [e2, m0]
      exact ih fu T1 (by omega) (by omega) f1
theorem find_2 (h : Fix S) (g : Ag G S) (gi : GI G) : ∀ (d k fu : Nat) (T : AS), 576 = k + d → d < fu → A35 S T → (∀ j, j < k → hI T 35 j = 1) → ∃ T', f_X6_findAlike_2 fu (some 14) k T = some ((0, 0, none), T') ∧ FA G S T' ∧ ∀ a b : Nat, (a : Int) < G 14 1 → (b : Int) < G 14 1 → (Rn T' a b ↔ AL G a b) := by
  intro d
  induction d with
  | zero =>
    intro k fu T hk hf a hy
    obtain ⟨fu, rfl⟩ : ∃ z, fu = z + 1 := ⟨fu - 1, by omega⟩
    obtain ⟨T', e, f, r⟩ := find_24 h g gi 576 FU T (cnt_le _ _) (FU_gt (by decide)) ⟨a, fun j hj => Or.inr (hy j (by omega)), fun x y hx hy2 _ => hy _ (by have := gi.lt hx; have := gi.lt hy2; omega)⟩
    refine ⟨T', ?_, f, r⟩
    unfold f_X6_findAlike_2
    rw [if_pos (by omega)]
    exact e
  | succ d ih =>
    intro k fu T hk hf a hy
    obtain ⟨fu, rfl⟩ : ∃ z, fu = z + 1 := ⟨fu - 1, by omega⟩
    obtain ⟨fT, -, -, -⟩ := a.ok h g
    obtain ⟨T', e, f, r⟩ := ih (k + 1) fu (wI T 35 k 1) (by omega) (by omega) (a.w _ _) (fun j hj => by
      rw [hI_wI]
      by_cases c : j = k
      · rw [if_pos ⟨rfl, c⟩]
      · rw [if_neg (by omega)]; exact hy j (by omega))
    refine ⟨T', ?_, f, r⟩
    conv => lhs; unfold f_X6_findAlike_2
    rw [if_neg (by omega), fr_14_25 fT, Option.bind_some, fs_35 fT (Or.inr rfl) (by omega) (by omega), Option.bind_some, tn, chk_ok (by omega) (by omega), Option.bind_some]
    exact e
theorem find_eq (h : Fix S) (g : Ag G S) (gi : GI G) : ∃ T', f_X6_findAlike (some 14) S = some ((0, 0, none), T') ∧ FA G S T' ∧ ∀ a b : Nat, (a : Int) < G 14 1 → (b : Int) < G 14 1 → (Rn T' a b ↔ AL G a b) :=
  find_2 h g gi 576 0 FU S rfl (FU_gt (by decide)) (A35.rfl' S) (fun y hy => absurd hy (Nat.not_lt_zero _))
theorem m_alike (h : Fix S) (g : Ag G S) (gi : GI G) (x y : Int) [Decidable (AL G x.toNat y.toNat)] : (¬ ((0 ≤ x ∧ x < G 14 1) ∧ 0 ≤ y ∧ y < G 14 1) → MO S (f_X6_alike (some 14) x y S) 1 0 G) ∧ ((0 ≤ x ∧ x < G 14 1) ∧ 0 ≤ y ∧ y < G 14 1 → MO S (f_X6_alike (some 14) x y S) 0 (Bo (AL G x.toNat y.toNat)) G) := by
  have bad : f_X6_alike_28 (some 14) x y 1 (some 14) S = some ((0, 0, none), wI S 14 0 1) := by
    unfold f_X6_alike_28
    rw [fk_14 h, gd_1, refused_i h, cI_s, if_neg (by decide), rZ_0]
  refine ⟨fun q => MO.th g ?_, fun q => ?_⟩
  · unfold f_X6_alike f_X6_alike_23
    rw [mg_1 h g, Option.bind_some, isIn_eq, cI_s]
    by_cases c : 0 ≤ x ∧ x < G 14 1
    · rw [Bo_t c, if_neg (by decide), mg_1 h g, Option.bind_some, isIn_f (fun z => q ⟨c, z⟩), cI_s, if_pos rfl, bad]
    · rw [Bo_f c, if_pos rfl, bad]
  · obtain ⟨n, rfl⟩ : ∃ n : Nat, x = n := ⟨x.toNat, by omega⟩
    obtain ⟨m, rfl⟩ : ∃ m : Nat, y = m := ⟨y.toNat, by omega⟩
    have hn9 : (n : Int) < G 14 1 := q.1.2
    have hm9 : (m : Int) < G 14 1 := q.2.2
    have l1 := gi.lt hn9
    have l2 := gi.lt hm9
    have h1 := h.wI 14 0 0
    have g1 : Ag G (wI S 14 0 0) := g.w1 kor_0
    obtain ⟨T, e, f, r⟩ := find_eq h1 g1 gi
    obtain ⟨fT, gT, mT, tT⟩ := f.1.ok h1 g1
    have rr := r n m hn9 hm9
    have e1 : (24 * (n : Int) + (m : Int)).toNat = 24 * n + m := by omega
    refine ⟨T, ?_, (MF.w1 S 0 0 (by decide) (by decide)).tr mT, by rw [tT, hI_w0], gT⟩
    unfold f_X6_alike
    rw [mg_1 h g, Option.bind_some, isIn_t q.1, cI_s, if_neg (by decide), mg_1 h g, Option.bind_some, isIn_t q.2, cI_s, if_neg (by decide)]
    unfold f_X6_alike_28
    rw [fk_14 h, gd_1, refused_n h, cI_s, if_pos rfl, fk_14 h1, gd_1, e, cV_s, fr_14_25 fT, Option.bind_some, chk_ok (by omega) (by omega), Option.bind_some, chk_ok (by omega) (by omega), Option.bind_some, fa_35 fT (by omega) (by omega), Option.bind_some, e1]
    by_cases c : AL G n m
    · have v := rr.mpr c
      unfold Rn at v
      rw [v, rZ_1]
      rw [Bo_t (p := AL G (n : Int).toNat (m : Int).toNat) (by rw [tn, tn]; exact c)]
    · have v : hI T 35 (24 * n + m) = 0 := by
        rcases f.2.1 (24 * n + m) (by omega) with z | z
        · exact z
        · exact absurd (rr.mp z) c
      rw [v, rZ_0]
      rw [Bo_f (p := AL G (n : Int).toNat (m : Int).toNat) (by rw [tn, tn]; exact c)]
end
