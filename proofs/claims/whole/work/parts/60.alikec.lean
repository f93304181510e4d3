/-! alike: the class -/
variable {sh ins : Nat → Nat} {pl nt wy : Nat → Nat → Nat} {tg : Nat → Nat × Nat}
section
variable {G : Nat → Nat → Int} {S : AS}
theorem row_11 {a b n : Nat} (ka : hk S a = 8) (kb : hk S b = 8) (la : hl S a = n) (lb : hl S b = n) (h9 : n < 1000000) : ∀ (d q fu : Nat), n = q + d → d < fu → ∃ v : Int, f_X5_isSameRow_11 fu (some a) (some b) q S = some ((0, v, none), S) ∧ (v = 0 ∨ v = 1) ∧ (v = 1 ↔ ∀ i, q ≤ i → i < n → hI S a i = hI S b i) := by
  intro d
  induction d with
  | zero =>
    intro q fu hq hf
    obtain ⟨fu, rfl⟩ : ∃ z, fu = z + 1 := ⟨fu - 1, by omega⟩
    refine ⟨1, ?_, Or.inr rfl, ⟨fun _ i h1 h2 => by omega, fun _ => rfl⟩⟩
    unfold f_X5_isSameRow_11
    rw [ln_at ka, Option.bind_some, la, if_pos (by omega), rZ_1]
  | succ d ih =>
    intro q fu hq hf
    obtain ⟨fu, rfl⟩ : ∃ z, fu = z + 1 := ⟨fu - 1, by omega⟩
    have e0 : f_X5_isSameRow_11 (fu + 1) (some a) (some b) q S = if hI S a q = hI S b q then f_X5_isSameRow_11 fu (some a) (some b) ((q + 1 : Nat) : Int) S else some ((0, 0, none), S) := by
      conv => lhs; unfold f_X5_isSameRow_11
      rw [ln_at ka, Option.bind_some, la, if_neg (by omega), aI_at ka (by omega) (by rw [la]; omega), Option.bind_some, aI_at kb (by omega) (by rw [lb]; omega), Option.bind_some, tn, chk_ok (by omega) (by omega), Option.bind_some, rZ_0]
      rfl
    rw [e0]
    by_cases c : hI S a q = hI S b q
    · rw [if_pos c]
      obtain ⟨v, e, v1, v2⟩ := ih (q + 1) fu (by omega) (by omega)
      refine ⟨v, e, v1, v2.trans ⟨fun w i h1 h2 => ?_, fun w i h1 h2 => w i (by omega) h2⟩⟩
      by_cases c2 : i = q
      · rw [c2]; exact c
      · exact w i (by omega) h2
    · rw [if_neg c]
      exact ⟨0, rfl, Or.inl rfl, ⟨fun z => by omega, fun w => absurd (w q (Nat.le_refl _) (by omega)) c⟩⟩
theorem row_eq {a b : Nat} (ka : hk S a = 8) (kb : hk S b = 8) (h9 : hl S a < 1000000) : ∃ v : Int, f_X5_isSameRow (some a) (some b) S = some ((0, v, none), S) ∧ (v = 0 ∨ v = 1) ∧ (v = 1 ↔ hl S a = hl S b ∧ ∀ i, i < hl S a → hI S a i = hI S b i) := by
  unfold f_X5_isSameRow
  rw [ln_at ka, Option.bind_some, ln_at kb, Option.bind_some]
  by_cases c : hl S a = hl S b
  · rw [if_pos (by omega)]
    obtain ⟨v, e, v1, v2⟩ := row_11 ka kb rfl c.symm h9 (hl S a) 0 FU (by omega) (FU_gt (by omega))
    exact ⟨v, e, v1, v2.trans ⟨fun w => ⟨c, fun i hi => w i (Nat.zero_le _) hi⟩, fun w i _ hi => w.2 i hi⟩⟩
  · rw [if_neg (by omega), rZ_0]
    exact ⟨0, rfl, Or.inl rfl, ⟨fun z => by omega, fun w => absurd w.1 c⟩⟩
theorem pcs_wd {a b : Nat} : ∀ n : Nat, (∀ k : Nat, k < n → G 16 (16 * a + k) = G 16 (16 * b + k)) → pcs G a n = pcs G b n := by
  intro n
  induction n with
  | zero => intro _; rfl
  | succ n ih =>
    intro h
    simp only [pcs]
    rw [ih (fun k hk => h k (by omega)), h n (by omega)]
theorem pcs_up {a : Nat} (w : PW G a) : ∀ (d k : Nat), ((k + d : Nat) : Int) ≤ G 15 a → pcs G a k ≤ pcs G a (k + d) := by
  intro d
  induction d with
  | zero => intro k _; exact Int.le_refl _
  | succ d ih =>
    intro k hk
    have := ih k (by omega)
    have := w.2.2 (k + d) (by omega)
    rw [show k + (d + 1) = k + d + 1 by omega]
    simp only [pcs]
    omega
theorem ob_iff {a b : Nat} (wa : PW G a) (wb : PW G b) (h15 : G 15 a = G 15 b) (h16 : ∀ k : Nat, (k : Int) < G 15 a → G 16 (16 * a + k) = G 16 (16 * b + k)) : (∀ q : Nat, (q : Int) < pc G a → ob G a q = ob G b q) ↔ ∀ k : Nat, (k : Int) < G 15 a → G 17 (16 * a + k) = G 17 (16 * b + k) := by
  have w1 := wa.1
  have ep : ∀ n : Nat, (n : Int) ≤ G 15 a → pcs G a n = pcs G b n := fun n hn9 => pcs_wd n (fun k hk => h16 k (by omega))
  constructor
  · intro h k hk
    have u1 := pcs_up wa ((G 15 a).toNat - (k + 1)) (k + 1) (by omega)
    rw [show k + 1 + ((G 15 a).toNat - (k + 1)) = (G 15 a).toNat by omega] at u1
    have p0 := (pcs_le wa k (by omega)).1
    have s1 : pcs G a (k + 1) = pcs G a k + G 16 (16 * a + k) := rfl
    have s2 : pcs G b (k + 1) = pcs G b k + G 16 (16 * b + k) := rfl
    have wk := wa.2.2 k hk
    have e1 := ep k (by omega)
    have e2 := h16 k hk
    have eq1 : ((pcs G a k).toNat : Int) = pcs G a k := by omega
    have r := h (pcs G a k).toNat (by unfold pc; omega)
    rw [eq1] at r
    rw [ob_at wa hk (by omega) (by omega), ob_at wb (k := k) (by omega) (by omega) (by omega)] at r
    exact r
  · intro h q _
    unfold ob
    rw [← h15]
    have : ∀ k : Nat, (k : Int) ≤ G 15 a → obk G a q k = obk G b q k := by
      intro k
      induction k with
      | zero => intro _; rfl
      | succ k ih =>
        intro hk
        simp only [obk]
        rw [ep k (by omega), ih (by omega), h k (by omega)]
    exact this _ (by omega)
theorem ports_29 (C : Cls sh ins pl nt wy tg G S) (gi : GI G) {a b : Nat} (ha : (a : Int) < G 14 1) (hb : (b : Int) < G 14 1) (hp : pc G a = pc G b) : ∀ (d q fu : Nat), (pc G a).toNat = q + d → d < fu → ∃ v : Int, f_X4_hasPortsOf_29 fu (some (sh a)) (some (sh b)) q S = some ((0, v, none), S) ∧ (v = 0 ∨ v = 1) ∧ (v = 1 ↔ ∀ i : Nat, q ≤ i → (i : Int) < pc G a → ob G a i = ob G b i) := by
  have pb := pc_le (gi.pw ha)
  intro d
  induction d with
  | zero =>
    intro q fu hq hf
    obtain ⟨fu, rfl⟩ : ∃ z, fu = z + 1 := ⟨fu - 1, by omega⟩
    refine ⟨1, ?_, Or.inr rfl, ⟨fun _ i h1 h2 => by omega, fun _ => rfl⟩⟩
    unfold f_X4_hasPortsOf_29
    rw [c_i4 C ha, Option.bind_some, if_pos (by omega), rZ_1]
  | succ d ih =>
    intro q fu hq hf
    obtain ⟨fu, rfl⟩ : ∃ z, fu = z + 1 := ⟨fu - 1, by omega⟩
    have e0 : f_X4_hasPortsOf_29 (fu + 1) (some (sh a)) (some (sh b)) q S = if ob G a q = ob G b q then f_X4_hasPortsOf_29 fu (some (sh a)) (some (sh b)) ((q + 1 : Nat) : Int) S else some ((0, 0, none), S) := by
      conv => lhs; unfold f_X4_hasPortsOf_29
      rw [c_i4 C ha, Option.bind_some, if_neg (by omega), c_s2 C ha, Option.bind_some, c_ob C gi ha (by omega), Option.bind_some, c_s2 C hb, Option.bind_some, c_ob C gi hb (by omega), Option.bind_some, chk_ok (by omega) (by omega), Option.bind_some, rZ_0]
      rfl
    rw [e0]
    by_cases c : ob G a q = ob G b q
    · rw [if_pos c]
      obtain ⟨v, e, v1, v2⟩ := ih (q + 1) fu (by omega) (by omega)
      refine ⟨v, e, v1, v2.trans ⟨fun w i h1 h2 => ?_, fun w i h1 h2 => w i (by omega) h2⟩⟩
      by_cases c2 : i = q
      · rw [c2]; exact c
      · exact w i (by omega) h2
    · rw [if_neg c]
      exact ⟨0, rfl, Or.inl rfl, ⟨fun z => by omega, fun w => absurd (w q (Nat.le_refl _) (by omega)) c⟩⟩
def Pt (G : Nat → Nat → Int) (a b : Nat) : Prop := G 15 a = G 15 b ∧ ∀ k : Nat, (k : Int) < G 15 a → G 16 (16 * a + k) = G 16 (16 * b + k) ∧ G 17 (16 * a + k) = G 17 (16 * b + k)
theorem ports_eq (C : Cls sh ins pl nt wy tg G S) (gi : GI G) {a b : Nat} (ha : (a : Int) < G 14 1) (hb : (b : Int) < G 14 1) : ∃ v : Int, f_X4_hasPortsOf (some (sh a)) (some (sh b)) S = some ((0, v, none), S) ∧ (v = 0 ∨ v = 1) ∧ (v = 1 ↔ Pt G a b) := by
  have wa := gi.pw ha
  have wb := gi.pw hb
  have w1 := wa.1
  have w2 := wa.2.1
  have A := C.at ha
  have B := C.at hb
  unfold f_X4_hasPortsOf
  rw [c_i3 C ha, Option.bind_some, c_i3 C hb, Option.bind_some]
  by_cases c : G 15 a = G 15 b
  · rw [if_pos c, c_s1 C ha, Option.bind_some, c_s1 C hb, Option.bind_some]
    obtain ⟨v, e, v1, v2⟩ := row_eq (S := S) (a := sh a + 1) (b := sh b + 1) A.2.1.2.1 B.2.1.2.1 (by rw [A.2.2.1.1]; decide)
    have v3 : v = 1 ↔ ∀ k : Nat, (k : Int) < G 15 a → G 16 (16 * a + k) = G 16 (16 * b + k) := by
      rw [v2, A.2.2.1.1, B.2.2.1.1]
      have f1 := A.2.2.2.2.2.2.1
      have f2 := B.2.2.2.2.2.2.1
      constructor
      · intro w k hk
        have r := w.2 k (by omega)
        rw [f1 k (by omega), f2 k (by omega), if_pos hk, if_pos (by omega)] at r
        exact r
      · intro w
        refine ⟨rfl, fun k hk => ?_⟩
        rw [f1 k hk, f2 k hk, ← c]
        by_cases c2 : (k : Int) < G 15 a
        · rw [if_pos c2, if_pos c2]; exact w k c2
        · rw [if_neg c2, if_neg c2]
    rw [e, cM_s]
    rcases v1 with z | z
    · rw [if_pos z, rZ_0]
      exact ⟨0, rfl, Or.inl rfl, ⟨fun q => by omega, fun w => by
        have := v3.mpr (fun k hk => (w.2 k hk).1)
        omega⟩⟩
    · rw [if_neg (by omega)]
      have h16 := v3.mp z
      have hp : pc G a = pc G b := by
        unfold pc
        rw [← c]
        exact pcs_wd _ (fun k hk => h16 k (by omega))
      have pb := pc_le wa
      obtain ⟨u, e2, u1, u2⟩ := ports_29 C gi ha hb hp (pc G a).toNat 0 FU (by omega) (FU_gt (by omega))
      refine ⟨u, e2, u1, u2.trans ?_⟩
      have o := ob_iff wa wb c h16
      constructor
      · intro w
        have := o.mp (fun q hq => w q (Nat.zero_le _) hq)
        exact ⟨c, fun k hk => ⟨h16 k hk, this k hk⟩⟩
      · intro w q _ hq
        exact o.mpr (fun k hk => (w.2 k hk).2) q hq
  · rw [if_neg c, rZ_0]
    exact ⟨0, rfl, Or.inl rfl, ⟨fun q => by omega, fun w => absurd w.1 c⟩⟩
theorem qn_s {m i p : Nat} : qn G m (i + 1) p = G 22 (8320 * m + 128 * i + p) := by
  unfold qn jb
  rw [if_neg (by omega)]
  rfl
theorem np_s {m i : Nat} : np G m (i + 1) = (pc G (fo G m i)).toNat := by
  unfold np jm
  rw [if_neg (by omega)]
  rfl
theorem inside_42 (C : Cls sh ins pl nt wy tg G S) (h : Fix S) (gi : GI G) {x y : Nat} (hx : (x : Int) < G 14 1) (hy : (y : Int) < G 14 1) (h18 : G 18 x = G 18 y) (hM : ∀ k : Nat, (k : Int) < G 18 x → (hI S 11 (fo G x k) = hI S 11 (fo G y k) ↔ AL G (fo G x k) (fo G y k))) : ∀ (d k fu : Nat), (G 18 x).toNat = k + d → d < fu → ∃ v : Int, f_X5_isSameInside_42 fu (some 0) (some (ins x)) (some (ins y)) k S = some ((0, v, none), S) ∧ (v = 0 ∨ v = 1) ∧ (v = 1 ↔ ∀ i : Nat, k ≤ i → (i : Int) < G 18 x → AL G (fo G x i) (fo G y i) ∧ ∀ p : Nat, p < np G x (i + 1) → qn G x (i + 1) p = qn G y (i + 1) p) := by
  have ni := gi.ni hx
  intro d
  induction d with
  | zero =>
    intro k fu hk hf
    obtain ⟨fu, rfl⟩ : ∃ z, fu = z + 1 := ⟨fu - 1, by omega⟩
    refine ⟨1, ?_, Or.inr rfl, ⟨fun _ i h1 h2 => by omega, fun _ => rfl⟩⟩
    unfold f_X5_isSameInside_42
    rw [c_a2 C hx, Option.bind_some, if_pos (by omega), rZ_1]
  | succ d ih =>
    intro k fu hk hf
    obtain ⟨fu, rfl⟩ : ∃ z, fu = z + 1 := ⟨fu - 1, by omega⟩
    have hkx : (k : Int) < G 18 x := by omega
    have hky : (k : Int) < G 18 y := by omega
    have fx := (gi.fv hx hkx).2
    have fy := (gi.fv hy hky).2
    have lx := gi.lt fx
    have ly := gi.lt fy
    have px := pc_le (gi.pw fx)
    have py := pc_le (gi.pw fy)
    have A := C.pa hx hkx
    have B := C.pa hy hky
    have hl1 := A.2.2.2.1.2.2.2
    have hl2 := B.2.2.2.1.2.2.2
    obtain ⟨v, e, v1, v2⟩ := row_eq (S := S) A.2.2.2.1.2.2.1 B.2.2.2.1.2.2.1 (by omega)
    have e0 : f_X5_isSameInside_42 (fu + 1) (some 0) (some (ins x)) (some (ins y)) k S = if hI S 11 (fo G x k) = hI S 11 (fo G y k) then (if v = 0 then some ((0, 0, none), S) else f_X5_isSameInside_42 fu (some 0) (some (ins x)) (some (ins y)) ((k + 1 : Nat) : Int) S) else some ((0, 0, none), S) := by
      conv => lhs; unfold f_X5_isSameInside_42
      rw [c_a2 C hx, Option.bind_some, if_neg (by omega), c_a1 C hx, Option.bind_some, c_pl C gi hx hkx, Option.bind_some, c_a1 C hy, Option.bind_some, c_pl C gi hy hky, Option.bind_some, fr_0_4 h, Option.bind_some, c_p0 C hx hkx, Option.bind_some, c_i0 C fx, Option.bind_some, fa_11 h (by omega) (by omega), Option.bind_some, Option.bind_some, c_p0 C hy hky, Option.bind_some, c_i0 C fy, Option.bind_some, fa_11 h (by omega) (by omega), Option.bind_some, tn, tn, c_p2 C hx hkx, Option.bind_some, c_p2 C hy hky, Option.bind_some, e, cI_s, rZ_0, chk_ok (by omega) (by omega), Option.bind_some]
      rfl
    rw [e0]
    by_cases c : hI S 11 (fo G x k) = hI S 11 (fo G y k)
    · rw [if_pos c]
      have al1 := (hM k hkx).mp c
      have pe : pc G (fo G x k) = pc G (fo G y k) := bs_pc gi fx al1.lk.2.2.1
      have v3 : v = 1 ↔ ∀ p : Nat, p < np G x (k + 1) → qn G x (k + 1) p = qn G y (k + 1) p := by
        rw [v2]
        have f1 := A.2.2.2.2.2.1
        have f2 := B.2.2.2.2.2.1
        constructor
        · intro w p hp
          rw [np_s] at hp
          have r := w.2 p (by omega)
          rw [f1 p (by omega), f2 p (by omega)] at r
          rw [qn_s, qn_s]
          exact r
        · intro w
          refine ⟨by omega, fun p hp => ?_⟩
          have r := w p (by rw [np_s]; omega)
          rw [qn_s, qn_s] at r
          rw [f1 p (by omega), f2 p (by omega)]
          exact r
      rcases v1 with z | z
      · rw [if_pos z]
        exact ⟨0, rfl, Or.inl rfl, ⟨fun q => by omega, fun w => by
          have := v3.mpr (w k (Nat.le_refl _) hkx).2
          omega⟩⟩
      · rw [if_neg (by omega)]
        obtain ⟨u, e2, u1, u2⟩ := ih (k + 1) fu (by omega) (by omega)
        refine ⟨u, e2, u1, u2.trans ⟨fun w i h1 h2 => ?_, fun w i h1 h2 => w i (by omega) h2⟩⟩
        by_cases c2 : i = k
        · subst c2; exact ⟨al1, v3.mp z⟩
        · exact w i (by omega) h2
    · rw [if_neg c]
      exact ⟨0, rfl, Or.inl rfl, ⟨fun q => by omega, fun w => absurd ((hM k hkx).mpr (w k (Nat.le_refl _) hkx).1) c⟩⟩
theorem qn_0 {m p : Nat} : qn G m 0 p = G 22 (8320 * m + 8192 + p) := rfl
theorem inside_eq (C : Cls sh ins pl nt wy tg G S) (h : Fix S) (gi : GI G) {x y : Nat} (hx : (x : Int) < G 14 1) (hy : (y : Int) < G 14 1) (hM : ∀ k : Nat, (k : Int) < G 18 x → (k : Int) < G 18 y → (hI S 11 (fo G x k) = hI S 11 (fo G y k) ↔ AL G (fo G x k) (fo G y k))) : ∃ v : Int, f_X5_isSameInside (some 0) (some (ins x)) (some (ins y)) S = some ((0, v, none), S) ∧ (v = 0 ∨ v = 1) ∧ (v = 1 ↔ G 18 x = G 18 y ∧ G 20 x = G 20 y ∧ (∀ q, q < 128 → qn G x 0 q = qn G y 0 q) ∧ ∀ i : Nat, (i : Int) < G 18 x → AL G (fo G x i) (fo G y i) ∧ ∀ p : Nat, p < np G x (i + 1) → qn G x (i + 1) p = qn G y (i + 1) p) := by
  have A := C.ia hx
  have B := C.ia hy
  obtain ⟨v, e, v1, v2⟩ := row_eq (S := S) A.2.1.2.1 B.2.1.2.1 (by rw [A.2.2.1.1]; decide)
  have v3 : v = 1 ↔ ∀ q, q < 128 → qn G x 0 q = qn G y 0 q := by
    rw [v2, A.2.2.1.1, B.2.2.1.1]
    have f1 := A.2.2.2.2.2
    have f2 := B.2.2.2.2.2
    constructor
    · intro w q hq
      have r := w.2 q hq
      rw [f1 q hq, f2 q hq] at r
      exact r
    · intro w
      refine ⟨rfl, fun q hq => ?_⟩
      rw [f1 q hq, f2 q hq]
      exact w q hq
  unfold f_X5_isSameInside
  rw [c_a2 C hx, Option.bind_some, c_a2 C hy, Option.bind_some, c_a3 C hx, Option.bind_some, c_a3 C hy, Option.bind_some, c_a0 C hx, Option.bind_some, c_a0 C hy, Option.bind_some, e, cI_s, rZ_0]
  by_cases c1 : G 18 x = G 18 y
  · by_cases c2 : G 20 x = G 20 y
    · rw [if_pos c1, if_pos c2]
      rcases v1 with z | z
      · rw [if_pos z]
        exact ⟨0, rfl, Or.inl rfl, ⟨fun q => by omega, fun w => by
          have := v3.mpr w.2.2.1
          omega⟩⟩
      · rw [if_neg (by omega)]
        have ni := gi.ni hx
        obtain ⟨u, e2, u1, u2⟩ := inside_42 C h gi hx hy c1 (fun k hk => hM k hk (by omega)) (G 18 x).toNat 0 FU (by omega) (FU_gt (by omega))
        exact ⟨u, e2, u1, u2.trans ⟨fun w => ⟨c1, c2, v3.mp z, fun i hi => w i (Nat.zero_le _) hi⟩, fun w i _ hi => w.2.2.2 i hi⟩⟩
    · rw [if_pos c1, if_neg c2]
      exact ⟨0, rfl, Or.inl rfl, ⟨fun q => by omega, fun w => absurd w.2.1 c2⟩⟩
  · rw [if_neg c1]
    exact ⟨0, rfl, Or.inl rfl, ⟨fun q => by omega, fun w => absurd w.1 c1⟩⟩
theorem same_eq (C : Cls sh ins pl nt wy tg G S) (h : Fix S) (gi : GI G) {x y : Nat} (hx : (x : Int) < G 14 1) (hy : (y : Int) < G 14 1) (hM : ∀ k : Nat, (k : Int) < G 18 x → (k : Int) < G 18 y → (hI S 11 (fo G x k) = hI S 11 (fo G y k) ↔ AL G (fo G x k) (fo G y k))) : ∃ v : Int, f_X5_isSame (some 0) (some (sh x)) (some (sh y)) S = some ((0, v, none), S) ∧ (v = 0 ∨ v = 1) ∧ (v = 1 ↔ AL G x y) := by
  obtain ⟨v, e, v1, v2⟩ := ports_eq C gi hx hy
  unfold f_X5_isSame
  rw [c_k5 C hx, gd_1, e, cI_s, rZ_0]
  rcases v1 with z | z
  · rw [if_pos z]
    exact ⟨0, rfl, Or.inl rfl, ⟨fun q => by omega, fun w => by
      obtain ⟨-, -, l1, -⟩ := w.lk
      have := v2.mpr ⟨l1.1, l1.2.2.2⟩
      omega⟩⟩
  · have pt := v2.mp z
    rw [if_neg (by omega), c_in C hx, Option.bind_some, c_in C hy, Option.bind_some]
    by_cases ci : ins x = ins y
    · rw [if_pos (by rw [ci]), rZ_1]
      refine ⟨1, rfl, Or.inr rfl, ⟨fun _ => ?_, fun _ => rfl⟩⟩
      have A := C.ia hx
      have B := C.ia hy
      rw [← ci] at B
      have h18 : G 18 x = G 18 y := A.2.2.2.2.1.1.symm.trans B.2.2.2.2.1.1
      have h20 : G 20 x = G 20 y := A.2.2.2.2.1.2.1.symm.trans B.2.2.2.2.1.2.1
      have hf : ∀ k : Nat, (k : Int) < G 18 x → fo G x k = fo G y k ∧ ∀ p : Nat, (p : Int) < pc G (fo G x k) → G 22 (8320 * x + 128 * k + p) = G 22 (8320 * y + 128 * k + p) := fun k hk => by
        have P := C.pa hx hk
        have Q := C.pa hy (k := k) (by omega)
        rw [← ci] at Q
        have e1 := P.2.2.1.1.symm.trans Q.2.2.1.1
        have e2 : fo G x k = fo G y k := C.inj (gi.fv hx hk).2 (gi.fv hy (k := k) (by omega)).2 (Option.some.inj e1)
        exact ⟨e2, fun p hp => (P.2.2.2.2.2.1 p hp).symm.trans (Q.2.2.2.2.2.1 p (by rw [← e2]; exact hp))⟩
      refine AL.of hx hy ⟨⟨pt.1, h18, h20, pt.2⟩, fun k hk => ?_, fun j p hj hp => ?_⟩
      · rw [← (hf k hk).1]
        exact AL.rf gi (gi.fv hx hk).2
      · have n1 := (np_le gi hx hj).1
        by_cases c : j = 0
        · subst c
          exact (A.2.2.2.2.2 p (by omega)).symm.trans (B.2.2.2.2.2 p (by omega))
        · obtain ⟨i, rfl⟩ : ∃ i, j = i + 1 := ⟨j - 1, by omega⟩
          rw [qn_s, qn_s]
          rw [np_s] at hp
          exact (hf i (by omega)).2 p (by omega)
    · obtain ⟨u, e2, u1, u2⟩ := inside_eq C h gi hx hy hM
      rw [if_neg (fun q => ci (Option.some.inj q)), Option.bind_some, Option.bind_some, fk_0 h, gd_1, e2, cI_s, rZ_1]
      have u3 : u = 1 ↔ AL G x y := by
        rw [u2]
        constructor
        · intro w
          refine AL.of hx hy ⟨⟨pt.1, w.1, w.2.1, pt.2⟩, fun k hk => (w.2.2.2 k hk).1, fun j p hj hp => ?_⟩
          have n1 := (np_le gi hx hj).1
          by_cases c : j = 0
          · subst c
            exact w.2.2.1 p (by omega)
          · obtain ⟨i, rfl⟩ : ∃ i, j = i + 1 := ⟨j - 1, by omega⟩
            exact (w.2.2.2 i (by omega)).2 p hp
        · intro w
          obtain ⟨-, -, l1, l2, l3⟩ := w.lk
          refine ⟨l1.2.1, l1.2.2.1, fun q hq => ?_, fun i hi => ⟨l2 i hi, fun p hp => l3 (i + 1) p (by omega) hp⟩⟩
          have ni := gi.ni hx
          have pe := bs_pc gi hx l1
          have pb := pc_le (gi.pw hx)
          by_cases c : (q : Int) < pc G x
          · refine l3 0 q (by omega) ?_
            show q < (pc G x).toNat
            omega
          · rw [qn_own gi hx (by omega) hq, qn_own gi hy (by omega) hq]
      rcases u1 with c | c
      · rw [if_pos c]
        exact ⟨0, rfl, Or.inl rfl, ⟨fun q => by omega, fun w => by have := u3.mpr w; omega⟩⟩
      · rw [if_neg (by omega)]
        exact ⟨1, rfl, Or.inr rfl, ⟨fun _ => u3.mp c, fun _ => rfl⟩⟩
/-- what has come, among the first p of the order -/
def In (L : List Nat) (p y : Nat) : Prop := ∃ q, ∃ hq : q < L.length, q < p ∧ L[q] = y
theorem In.lt {L : List Nat} {p y : Nat} (h : In L p y) : y ∈ L := by
  obtain ⟨q, hq, -, rfl⟩ := h
  exact List.getElem_mem hq
theorem In.s {L : List Nat} {p y : Nat} (hp : p < L.length) : In L (p + 1) y ↔ In L p y ∨ y = L[p] := by
  constructor
  · rintro ⟨q, hq, h1, h2⟩
    by_cases c : q = p
    · subst c; exact Or.inr h2.symm
    · exact Or.inl ⟨q, hq, by omega, h2⟩
  · rintro (⟨q, hq, h1, h2⟩ | h)
    · exact ⟨q, hq, by omega, h2⟩
    · exact ⟨p, hp, by omega, h.symm⟩
/-- the first p are sorted: each has the number of the first one alike -/
def KV (G : Nat → Nat → Int) (sh : Nat → Nat) (S T : AS) (L : List Nat) (p : Nat) : Prop := OT sh S T L ∧ (∀ y, In L p y → ∃ r : Nat, hI T 11 y = r ∧ In L p r ∧ hI T 11 r = r ∧ AL G y r) ∧ ∀ y z, In L p y → In L p z → AL G y z → hI T 11 y = hI T 11 z
theorem KV.iff (gi : GI G) {T : AS} {L : List Nat} {p : Nat} (k : KV G sh S T L p) {y z : Nat} (hy : In L p y) (hz : In L p z) : hI T 11 y = hI T 11 z ↔ AL G y z := by
  constructor
  · intro e
    obtain ⟨r, a1, a2, a3, a4⟩ := k.2.1 y hy
    obtain ⟨s, b1, b2, b3, b4⟩ := k.2.1 z hz
    have : r = s := by omega
    subst this
    exact a4.tr gi (b4.sy gi)
  · exact k.2.2 y z hy hz
theorem first_12 (C : Cls sh ins pl nt wy tg G S) (hs : Stt S) (gi : GI G) {L : List Nat} (hL : ∀ y, y ∈ L → (y : Int) < G 14 1) (h24 : L.length ≤ 24) (hB : Bh G L) {T : AS} {p : Nat} (kv : KV G sh S T L p) (hp : p < L.length) : ∀ (d i fu : Nat), p = i + d → d < fu → ∃ r, f_X5_firstAlike_12 fu (some 0) p (some (sh L[p])) i T = some ((0, 0, some (sh r)), T) ∧ ((r = L[p] ∧ ∀ q, (hq : q < L.length) → i ≤ q → q < p → hI T 11 L[q] = L[q] → ¬ AL G L[p] L[q]) ∨ (In L p r ∧ hI T 11 r = r ∧ AL G L[p] r)) := by
  have hT := kv.1.1.stt hs
  have CT := C.kp kv.1.1.kp
  have hx := hL _ (List.getElem_mem hp)
  intro d
  induction d with
  | zero =>
    intro i fu hi hf
    obtain ⟨fu, rfl⟩ : ∃ z, fu = z + 1 := ⟨fu - 1, by omega⟩
    refine ⟨L[p], ?_, Or.inl ⟨rfl, fun q _ h1 h2 => by omega⟩⟩
    unfold f_X5_firstAlike_12
    rw [if_pos (by omega), rR_s]
  | succ d ih =>
    intro i fu hi hf
    obtain ⟨fu, rfl⟩ : ∃ z, fu = z + 1 := ⟨fu - 1, by omega⟩
    have hil : i < L.length := by omega
    have hy := hL _ (List.getElem_mem hil)
    have ly := gi.lt hy
    have kid : ∀ (q : Nat) (hq : q < L.length), q ≤ p → ∀ k : Nat, (k : Int) < G 18 L[q] → In L p (fo G L[q] k) := fun q hq hqp k hk => by
      obtain ⟨s, hs9, h1, h2⟩ := hB q hq k hk
      exact ⟨s, hs9, by omega, h2⟩
    obtain ⟨v, e, v1, v2⟩ := same_eq CT hT.1 gi hx hy (fun k h1 h2 => kv.iff gi (kid p hp (Nat.le_refl _) k h1) (kid i hil (by omega) k h2))
    have e0 : f_X5_firstAlike_12 (fu + 1) (some 0) p (some (sh L[p])) i T = if hI T 11 L[i] = L[i] then (if v = 0 then f_X5_firstAlike_12 fu (some 0) p (some (sh L[p])) ((i + 1 : Nat) : Int) T else some ((0, 0, some (sh L[i])), T)) else f_X5_firstAlike_12 fu (some 0) p (some (sh L[p])) ((i + 1 : Nat) : Int) T := by
      conv => lhs; unfold f_X5_firstAlike_12
      rw [if_neg (by omega), fr_0_2 hT.1, Option.bind_some, fr_2_0 hT.1, Option.bind_some, fa_3 hT.1 (by omega) (by omega), Option.bind_some, tn, kv.1.2.2 i hil, fr_0_4 hT.1, Option.bind_some, c_i0 CT hy, Option.bind_some, fa_11 hT.1 (by omega) (by omega), Option.bind_some, tn, Option.bind_some, fk_0 hT.1, gd_1, e, cI_s, rR_s, chk_ok (by omega) (by omega), Option.bind_some]
      rfl
    rw [e0]
    have go : (hI T 11 L[i] = L[i] → ¬ AL G L[p] L[i]) → ∃ r, f_X5_firstAlike_12 fu (some 0) p (some (sh L[p])) ((i + 1 : Nat) : Int) T = some ((0, 0, some (sh r)), T) ∧ ((r = L[p] ∧ ∀ q, (hq : q < L.length) → i ≤ q → q < p → hI T 11 L[q] = L[q] → ¬ AL G L[p] L[q]) ∨ (In L p r ∧ hI T 11 r = r ∧ AL G L[p] r)) := fun w => by
      obtain ⟨r, er, hr⟩ := ih (i + 1) fu (by omega) (by omega)
      refine ⟨r, er, ?_⟩
      rcases hr with ⟨h1, h2⟩ | hr
      · refine Or.inl ⟨h1, fun q hq a1 a2 a3 => ?_⟩
        by_cases c : q = i
        · subst c; exact w a3
        · exact h2 q hq (by omega) a2 a3
      · exact Or.inr hr
    by_cases c : hI T 11 L[i] = L[i]
    · rw [if_pos c]
      by_cases c2 : v = 0
      · rw [if_pos c2]
        exact go (fun _ q => by have := v2.mpr q; omega)
      · rw [if_neg c2]
        exact ⟨L[i], rfl, Or.inr ⟨⟨i, hil, by omega, rfl⟩, c, v2.mp (v1.resolve_left c2)⟩⟩
    · rw [if_neg c]
      exact go (fun q => absurd q c)
/-- how many come first of their kind; what came before stands behind -/
noncomputable def nf (G : Nat → Nat → Int) : List Nat → Nat
  | [] => 0
  | x :: l => nf G l + @ite _ (∃ y, y ∈ l ∧ AL G x y) (Classical.propDecidable _) 0 1
theorem nf_t {x : Nat} {l : List Nat} (h : ∃ y, y ∈ l ∧ AL G x y) : nf G (x :: l) = nf G l := by simp only [nf]; rw [if_pos h]; rfl
theorem nf_f {x : Nat} {l : List Nat} (h : ¬ ∃ y, y ∈ l ∧ AL G x y) : nf G (x :: l) = nf G l + 1 := by simp only [nf]; rw [if_neg h]
theorem nf_le : ∀ l : List Nat, nf G l ≤ l.length := by
  intro l
  induction l with
  | nil => exact Nat.le_refl _
  | cons x l ih =>
    by_cases c : ∃ y, y ∈ l ∧ AL G x y
    · rw [nf_t c, List.length_cons]; omega
    · rw [nf_f c, List.length_cons]; omega
theorem nf_perm (gi : GI G) {l m : List Nat} (h : l.Perm m) : nf G l = nf G m := by
  induction h with
  | nil => rfl
  | cons x p ih =>
    rename_i l1 l2
    by_cases c : ∃ y, y ∈ l1 ∧ AL G x y
    · obtain ⟨y, c1, c2⟩ := c
      rw [nf_t ⟨y, c1, c2⟩, nf_t ⟨y, p.mem_iff.mp c1, c2⟩, ih]
    · rw [nf_f c, nf_f (fun ⟨y, c1, c2⟩ => c ⟨y, p.mem_iff.mpr c1, c2⟩), ih]
  | swap x y l =>
    by_cases cy : ∃ z, z ∈ l ∧ AL G y z
    · by_cases cx : ∃ z, z ∈ l ∧ AL G x z
      · obtain ⟨z, z1, z2⟩ := cy
        obtain ⟨w, w1, w2⟩ := cx
        rw [nf_t ⟨z, List.mem_cons_of_mem _ z1, z2⟩, nf_t ⟨w, w1, w2⟩, nf_t ⟨w, List.mem_cons_of_mem _ w1, w2⟩, nf_t ⟨z, z1, z2⟩]
      · have nxy : ¬ AL G x y := fun q => by
          obtain ⟨z, z1, z2⟩ := cy
          exact cx ⟨z, z1, q.tr gi z2⟩
        obtain ⟨z, z1, z2⟩ := cy
        rw [nf_t ⟨z, List.mem_cons_of_mem _ z1, z2⟩, nf_f cx, nf_f (fun ⟨w, w1, w2⟩ => by
          rcases List.mem_cons.mp w1 with e | e
          · subst e; exact nxy w2
          · exact cx ⟨w, e, w2⟩), nf_t ⟨z, z1, z2⟩]
    · by_cases cx : ∃ z, z ∈ l ∧ AL G x z
      · have nyx : ¬ AL G y x := fun q => by
          obtain ⟨z, z1, z2⟩ := cx
          exact cy ⟨z, z1, q.tr gi z2⟩
        obtain ⟨z, z1, z2⟩ := cx
        rw [nf_t (x := x) (l := y :: l) ⟨z, List.mem_cons_of_mem _ z1, z2⟩, nf_f cy, nf_f (fun ⟨w, w1, w2⟩ => by
          rcases List.mem_cons.mp w1 with e | e
          · subst e; exact nyx w2
          · exact cy ⟨w, e, w2⟩), nf_t ⟨z, z1, z2⟩]
      · by_cases cc : AL G x y
        · rw [nf_t ⟨x, List.mem_cons_self, cc.sy gi⟩, nf_f cx, nf_t ⟨y, List.mem_cons_self, cc⟩, nf_f cy]
        · rw [nf_f (x := y) (l := x :: l) (fun ⟨w, w1, w2⟩ => by
            rcases List.mem_cons.mp w1 with e | e
            · subst e; exact cc (w2.sy gi)
            · exact cy ⟨w, e, w2⟩), nf_f cx, nf_f (x := x) (l := y :: l) (fun ⟨w, w1, w2⟩ => by
            rcases List.mem_cons.mp w1 with e | e
            · subst e; exact cc w2
            · exact cx ⟨w, e, w2⟩), nf_f cy]
  | trans _ _ h1 h2 => exact h1.trans h2
theorem in_take {L : List Nat} {p y : Nat} : y ∈ (L.take p).reverse ↔ In L p y := by
  rw [List.mem_reverse, List.mem_take_iff_getElem]
  constructor
  · rintro ⟨q, hq, e⟩
    exact ⟨q, by omega, by omega, e⟩
  · rintro ⟨q, hq, h1, h2⟩
    exact ⟨q, by omega, h2⟩
theorem sort_4 (C : Cls sh ins pl nt wy tg G S) (hs : Stt S) (gi : GI G) {L : List Nat} (hL : ∀ y, y ∈ L → (y : Int) < G 14 1) (h24 : L.length ≤ 24) (hB : Bh G L) (hN : L.Nodup) : ∀ (d p fu : Nat) (T : AS), L.length = p + d → d < fu → KV G sh S T L p → ∃ T', f_X5_sortIntoKinds_4 fu (some 0) (nf G (L.take p).reverse : Int) p T = some ((0, (nf G L.reverse : Int), none), T') ∧ KV G sh S T' L L.length := by
  intro d
  induction d with
  | zero =>
    intro p fu T hp hf kv
    obtain ⟨fu, rfl⟩ : ∃ z, fu = z + 1 := ⟨fu - 1, by omega⟩
    have hT := kv.1.1.stt hs
    have ep : p = L.length := by omega
    subst ep
    refine ⟨T, ?_, kv⟩
    unfold f_X5_sortIntoKinds_4
    rw [fr_0_2 hT.1, Option.bind_some, fg_2 hT.1, Option.bind_some, kv.1.2.1, if_pos (by omega), rI_s, List.take_length]
  | succ d ih =>
    intro p fu T hp hf kv
    obtain ⟨fu, rfl⟩ : ∃ z, fu = z + 1 := ⟨fu - 1, by omega⟩
    have hT := kv.1.1.stt hs
    have CT := C.kp kv.1.1.kp
    have hpl : p < L.length := by omega
    have hx := hL _ (List.getElem_mem hpl)
    have lx := gi.lt hx
    obtain ⟨r, er, hr⟩ := first_12 C hs gi hL h24 hB kv hpl p 0 FU (by omega) (FU_gt (by omega))
    have nin : ¬ In L p L[p] := fun ⟨q, hq, h1, h2⟩ => by
      have := (List.getElem_inj hN).mp h2
      omega
    have hrm : (r : Int) < G 14 1 := by
      rcases hr with ⟨h1, -⟩ | h1
      · rw [h1]; exact hx
      · exact hL _ h1.1.lt
    have tk : (L.take (p + 1)).reverse = L[p] :: (L.take p).reverse := by
      rw [List.take_succ_eq_append_getElem hpl, List.reverse_append]
      rfl
    have nl := nf_le (G := G) (L.take p).reverse
    rw [List.length_reverse, List.length_take] at nl
    -- the next picture
    obtain ⟨U, hU⟩ : ∃ U, U = wI T 11 L[p] r := ⟨_, rfl⟩
    have u1 : ∀ y, hI U 11 y = if y = L[p] then (r : Int) else hI T 11 y := fun y => by
      rw [hU, hI_wI]
      by_cases c : y = L[p]
      · rw [if_pos ⟨rfl, c⟩, if_pos c]
      · rw [if_neg (by omega), if_neg c]
    have old : ∀ y, In L p y → hI U 11 y = hI T 11 y := fun y hy => by
      rw [u1, if_neg (fun q => nin (by rw [← q]; exact hy))]
    have none_al : r = L[p] → ∀ y, In L p y → ¬ AL G L[p] y := fun hrp y hy q => by
      obtain ⟨s, b1, b2, b3, b4⟩ := kv.2.1 y hy
      rcases hr with ⟨-, h2⟩ | h2
      · obtain ⟨t, ht, h3, h4⟩ := b2
        subst h4
        exact h2 t ht (Nat.zero_le _) h3 b3 (q.tr gi b4)
      · exact nin (by rw [← hrp]; exact h2.1)
    have kU : KV G sh S U L (p + 1) := by
      refine ⟨by rw [hU]; exact kv.1.w _ _, fun y hy => ?_, fun y z hy hz a => ?_⟩
      · rcases (In.s hpl).mp hy with c | c
        · obtain ⟨s, b1, b2, b3, b4⟩ := kv.2.1 y c
          exact ⟨s, by rw [old y c]; exact b1, (In.s hpl).mpr (Or.inl b2), by rw [old s b2]; exact b3, b4⟩
        · subst c
          refine ⟨r, by rw [u1, if_pos rfl], ?_, ?_, ?_⟩
          · rcases hr with ⟨h1, -⟩ | h1
            · exact (In.s hpl).mpr (Or.inr h1)
            · exact (In.s hpl).mpr (Or.inl h1.1)
          · rcases hr with ⟨h1, -⟩ | h1
            · rw [h1, u1, if_pos rfl, h1]
            · rw [old r h1.1]; exact h1.2.1
          · rcases hr with ⟨h1, -⟩ | h1
            · rw [h1]; exact AL.rf gi hx
            · exact h1.2.2
      · have key : ∀ w, In L p w → AL G L[p] w → (r : Int) = hI T 11 w := fun w hw a => by
          rcases hr with ⟨h1, h2⟩ | h1
          · exact absurd a (none_al h1 w hw)
          · have := kv.2.2 r w h1.1 hw ((h1.2.2.sy gi).tr gi a)
            rw [← this]; exact h1.2.1.symm
        rcases (In.s hpl).mp hy with c | c
        · rcases (In.s hpl).mp hz with c2 | c2
          · rw [old y c, old z c2]; exact kv.2.2 y z c c2 a
          · subst c2
            rw [old y c, u1, if_pos rfl]
            exact (key y c (a.sy gi)).symm
        · subst c
          rcases (In.s hpl).mp hz with c2 | c2
          · rw [old z c2, u1, if_pos rfl]
            exact key z c2 a
          · subst c2; rfl
    have e0 : f_X5_sortIntoKinds_4 (fu + 1) (some 0) (nf G (L.take p).reverse : Int) p T = f_X5_sortIntoKinds_4 fu (some 0) (nf G (L.take (p + 1)).reverse : Int) ((p + 1 : Nat) : Int) U := by
      have ef : f_X5_firstAlike (some 0) p T = some ((0, 0, some (sh r)), T) := by
        unfold f_X5_firstAlike
        rw [fr_0_2 hT.1, Option.bind_some, fr_2_0 hT.1, Option.bind_some, fa_3 hT.1 (by omega) (by omega), Option.bind_some, tn, kv.1.2.2 p hpl]
        exact er
      conv => lhs; unfold f_X5_sortIntoKinds_4
      rw [fr_0_2 hT.1, Option.bind_some, fg_2 hT.1, Option.bind_some, kv.1.2.1, if_neg (by omega), Option.bind_some, fr_2_0 hT.1, Option.bind_some, fa_3 hT.1 (by omega) (by omega), Option.bind_some, tn, kv.1.2.2 p hpl, fk_0 hT.1, gd_1, ef, cR_s, fr_0_4 hT.1, Option.bind_some, c_i0 CT hx, Option.bind_some, c_i0 CT hrm, Option.bind_some, fs_11 hT.1 _ (by omega) (by omega), Option.bind_some, tn, ← hU, tk]
      by_cases c : r = L[p]
      · rw [if_pos (by rw [c]), chk_ok (by omega) (by omega), Option.bind_some, chk_ok (by omega) (by omega), Option.bind_some, nf_f (fun ⟨y, h1, h2⟩ => none_al c y (in_take.mp h1) h2)]
        rfl
      · rw [if_neg (fun q => c (C.inj hrm hx (Option.some.inj q))), chk_ok (by omega) (by omega), Option.bind_some]
        rcases hr with ⟨h1, -⟩ | h1
        · exact absurd h1 c
        · rw [nf_t ⟨r, in_take.mpr h1.1, h1.2.2⟩]
          rfl
    rw [e0]
    exact ih (p + 1) fu U (by omega) (by omega) kU
theorem sort_eq (C : Cls sh ins pl nt wy tg G S) (hs : Stt S) (gi : GI G) {L : List Nat} (hL : ∀ y, y ∈ L → (y : Int) < G 14 1) (hB : Bh G L) (hN : L.Nodup) {T : AS} {H : Nat → Prop} (o : OS sh S T L H) : ∃ T', f_X5_sortIntoKinds (some 0) T = some ((0, (nf G L.reverse : Int), none), T') ∧ KV G sh S T' L L.length := by
  have h24 := nodup_len (n := 24) hN (fun y hy => gi.lt (hL y hy))
  obtain ⟨T', e, k⟩ := sort_4 C hs gi hL h24 hB hN L.length 0 FU T (by omega) (FU_gt (by omega)) ⟨⟨o.1, o.2.1, o.2.2.1⟩, fun y ⟨q, _, h, _⟩ => absurd h (Nat.not_lt_zero _), fun y z ⟨q, _, h, _⟩ => absurd h (Nat.not_lt_zero _)⟩
  exact ⟨T', e, k⟩
theorem x_alike (C : Cls sh ins pl nt wy tg G S) (hs : Stt S) (gi : GI G) (x y : Int) [Decidable (AL G x.toNat y.toNat)] : (¬ ((0 ≤ x ∧ x < G 14 1) ∧ 0 ≤ y ∧ y < G 14 1) → CO S (f_X5_alike (some 0) x y S) 1 0) ∧ ((0 ≤ x ∧ x < G 14 1) ∧ 0 ≤ y ∧ y < G 14 1 → CO S (f_X5_alike (some 0) x y S) 0 (Bo (AL G x.toNat y.toNat))) := by
  refine ⟨fun q => ?_, fun q => ?_⟩
  · unfold f_X5_alike
    by_cases c : 0 ≤ x ∧ x < G 14 1
    · rw [fk_0 hs.1, gd_1, shellAt_t C hs.1 gi c, cR_s, fk_0 hs.1, gd_1, shellAt_f C hs.1 (fun z => q ⟨c, z⟩), cR_X]
      exact CO.x (Sc.rfl' S) hs
    · rw [fk_0 hs.1, gd_1, shellAt_f C hs.1 c, cR_X]
      exact CO.x (Sc.rfl' S) hs
  · obtain ⟨n, rfl⟩ : ∃ n : Nat, x = n := ⟨x.toNat, by omega⟩
    obtain ⟨m, rfl⟩ : ∃ m : Nat, y = m := ⟨y.toNat, by omega⟩
    have hn9 : (n : Int) < G 14 1 := q.1.2
    have hm9 : (m : Int) < G 14 1 := q.2.2
    have ln9 := gi.lt hn9
    have lm9 := gi.lt hm9
    obtain ⟨T1, e1, o1⟩ := restart_eq (sh := sh) (Sc.rfl' S) hs.1
    have h1 := o1.1.stt hs
    obtain ⟨T2, M, e2, o2, b2, n2, l2, x2, r2⟩ := put_top C hs gi hn9 (L := []) ⟨o1.1, o1.2.1, o1.2.2.1, fun y hy => ⟨(o1.2.2.2 y hy).1, (o1.2.2.2 y hy).2.trans (by simp)⟩⟩ (fun y hy => absurd hy List.not_mem_nil) (fun p hp => absurd hp (Nat.not_lt_zero _)) List.nodup_nil
    have h2 := o2.1.stt hs
    obtain ⟨T3, M', e3, o3, b3, n3, l3, x3, r3⟩ := put_top C hs gi hm9 o2 l2 b2 n2
    have h3 := o3.1.stt hs
    obtain ⟨T4, e4, kv⟩ := sort_eq C hs gi l3 b3 n3 o3
    have h4 := kv.1.1.stt hs
    have C4 := C.kp kv.1.1.kp
    have inl : ∀ z, z ∈ [] ++ M ++ M' → In ([] ++ M ++ M') ([] ++ M ++ M').length z := fun z hz => by
      obtain ⟨i, hi, e⟩ := List.getElem_of_mem hz
      exact ⟨i, hi, hi, e⟩
    have ki := kv.iff gi (inl n (List.mem_append_left _ x2)) (inl m x3)
    refine ⟨T4, ?_, kv.1.1.qu hs.1⟩
    unfold f_X5_alike
    rw [fk_0 hs.1, gd_1, shellAt_t C hs.1 gi q.1, cR_s, fk_0 hs.1, gd_1, shellAt_t C hs.1 gi q.2, cR_s, fr_0_2 hs.1, Option.bind_some, fk_2 hs.1, gd_1, e1, cV_s, fr_0_2 h1.1, Option.bind_some, show sh (n : Int).toNat = sh n by rw [tn], e2, cV_s, fr_0_2 h2.1, Option.bind_some, show sh (m : Int).toNat = sh m by rw [tn], e3, cV_s, fk_0 h3.1, gd_1, e4, cI_s, fr_0_4 h4.1, Option.bind_some, c_i0 C4 hn9, Option.bind_some, fa_11 h4.1 (by omega) (by omega), Option.bind_some, Option.bind_some, c_i0 C4 hm9, Option.bind_some, fa_11 h4.1 (by omega) (by omega), Option.bind_some, show hI T4 11 (n : Int).toNat = hI T4 11 n by rw [tn], show hI T4 11 (m : Int).toNat = hI T4 11 m by rw [tn], rZ_1, rZ_0]
    by_cases c : AL G n m
    · rw [if_pos (ki.mpr c)]
      rw [Bo_t (p := AL G (n : Int).toNat (m : Int).toNat) (by rw [tn, tn]; exact c)]
    · rw [if_neg (fun z => c (ki.mp z))]
      rw [Bo_f (p := AL G (n : Int).toNat (m : Int).toNat) (by rw [tn, tn]; exact c)]
end
