/-! the class's calls that only look: pins, pin, shared, path, moduleOf, modules -/
variable {sh ins : Nat → Nat} {pl nt wy : Nat → Nat → Nat} {tg : Nat → Nat × Nat}
theorem cnt_ext {f : Nat → Bool} {n : Nat} : ∀ e : Nat, (∀ p, n ≤ p → p < n + e → f p = false) → cnt f (n + e) = cnt f n := by
  intro e
  induction e with
  | zero => intro _; rfl
  | succ e ih =>
    intro h
    have := ih (fun p h1 h2 => h p h1 (by omega))
    rw [← Nat.add_assoc, cnt_s, h (n + e) (by omega) (by omega), this]
    rfl
theorem fnd_ext {f : Nat → Bool} (e : Nat) : ∀ (d p : Nat) (left : Int), (∀ q, p + d ≤ q → q < p + d + e → f q = false) → fnd f (d + e) p left = fnd f d p left := by
  intro d
  induction d with
  | zero =>
    intro p left h
    rw [Nat.zero_add]
    induction e generalizing p with
    | zero => rfl
    | succ e ih =>
      conv => lhs; unfold fnd
      rw [if_neg (by rw [h p (by omega) (by omega)]; decide), ih (p + 1) (fun q h1 h2 => h q (by omega) (by omega))]
      rfl
  | succ d ih =>
    intro p left h
    rw [show d + 1 + e = (d + e) + 1 by omega]
    unfold fnd
    rw [ih (p + 1) left (fun q h1 h2 => h q (by omega) (by omega)), ih (p + 1) (left - 1) (fun q h1 h2 => h q (by omega) (by omega))]
section
variable {G : Nat → Nat → Int} {S : AS}
theorem mt_own (gi : GI G) {i p : Nat} (hi : (i : Int) < G 14 1) {v : Int} (hv : 0 ≤ v) (drv : Bool) (h1 : pc G i ≤ p) (h2 : p < 128) : mt G i v drv 0 p = false := by
  unfold mt
  rw [qn_own gi hi h1 h2]
  have : ¬ (-1 = v) := by omega
  simp [this]
theorem nl_np (gi : GI G) {i j : Nat} (hi : (i : Int) < G 14 1) (hj : (j : Int) ≤ G 18 i) : np G i j ≤ nl G i j ∧ nl G i j ≤ 128 := by
  have := (np_le gi hi hj).1
  unfold nl
  split <;> omega
theorem mt_nl (gi : GI G) {i j : Nat} (hi : (i : Int) < G 14 1) (hj : (j : Int) ≤ G 18 i) {v : Int} (hv : 0 ≤ v) (drv : Bool) : ∀ p, np G i j ≤ p → p < nl G i j → mt G i v drv j p = false := by
  intro p h1 h2
  unfold nl at h2
  by_cases h0 : j = 0
  · subst h0
    rw [if_pos rfl] at h2
    have := (np_le gi hi hj).2
    exact mt_own gi hi hv drv (by rw [show jm G i 0 = i from rfl] at this; omega) h2
  · rw [if_neg h0] at h2
    omega
theorem cnt_nl (gi : GI G) {i j : Nat} (hi : (i : Int) < G 14 1) (hj : (j : Int) ≤ G 18 i) {v : Int} (hv : 0 ≤ v) (drv : Bool) : cnt (mt G i v drv j) (nl G i j) = cnt (mt G i v drv j) (np G i j) := by
  have h := nl_np gi hi hj
  have e := cnt_ext (f := mt G i v drv j) (n := np G i j) (nl G i j - np G i j) (fun p h1 h2 => mt_nl gi hi hj hv drv p h1 (by omega))
  rw [show np G i j + (nl G i j - np G i j) = nl G i j by omega] at e
  exact e
theorem fnd_nl (gi : GI G) {i j : Nat} (hi : (i : Int) < G 14 1) (hj : (j : Int) ≤ G 18 i) {v : Int} (hv : 0 ≤ v) (drv : Bool) (left : Int) : fnd (mt G i v drv j) (nl G i j) 0 left = fnd (mt G i v drv j) (np G i j) 0 left := by
  have h := nl_np gi hi hj
  have e := fnd_ext (f := mt G i v drv j) (nl G i j - np G i j) (np G i j) 0 left (fun p h1 h2 => mt_nl gi hi hj hv drv p (by omega) (by omega))
  rw [show np G i j + (nl G i j - np G i j) = nl G i j by omega] at e
  exact e
theorem pins_48 (C : Cls sh ins pl nt wy tg G S) (gi : GI G) {i j : Nat} (hi : (i : Int) < G 14 1) (hj : (j : Int) ≤ G 18 i) (v : Int) (a3 : Option Nat) (k17 : Int → Option Nat → Int → Int → AS → Option RS) {c0 : Nat} (hc : c0 ≤ 100000) : ∀ (d p fu : Nat), nl G i j = p + d → d < fu → f_X5_pins_48 fu k17 v a3 ((c0 + cnt (mt G i v false j) p : Nat) : Int) ((j : Int) - 1) (some (na ins nt i j)) (nl G i j : Int) p S = k17 v a3 ((c0 + cnt (mt G i v false j) (nl G i j) : Nat) : Int) (j : Int) S := by
  intro d
  have l2 := gi.ni hi
  have l3 := nl_np gi hi hj
  induction d with
  | zero =>
    intro p fu hp hf
    obtain ⟨fu, rfl⟩ : ∃ z, fu = z + 1 := ⟨fu - 1, by omega⟩
    unfold f_X5_pins_48
    rw [if_pos (by omega), chk_ok (by omega) (by omega), Option.bind_some, show (j : Int) - 1 + 1 = j by omega, show p = nl G i j by omega]
  | succ d ih =>
    intro p fu hp hf
    obtain ⟨fu, rfl⟩ : ∃ z, fu = z + 1 := ⟨fu - 1, by omega⟩
    have step := ih (p + 1) fu (by omega) (by omega)
    rw [show ((p + 1 : Nat) : Int) = (p : Int) + 1 by omega] at step
    have cl := cnt_le (mt G i v false j) p
    have cs := cnt_s (mt G i v false j) p
    have er := c_na C gi hi hj (q := p) (by omega)
    conv => lhs; unfold f_X5_pins_48
    rw [if_neg (by omega), er, Option.bind_some]
    by_cases c1 : qn G i j p = v
    · have : mt G i v false j p = true := by simp [mt, c1]
      rw [if_pos this] at cs
      rw [if_pos c1, chk_ok (by omega) (by omega), Option.bind_some, chk_ok (by omega) (by omega), Option.bind_some]
      rw [cs] at step
      exact step
    · have : ¬ mt G i v false j p = true := by simp [mt, c1]
      rw [if_neg this] at cs
      rw [if_neg c1, chk_ok (by omega) (by omega), Option.bind_some]
      rw [cs] at step
      exact step
theorem pins_17 (C : Cls sh ins pl nt wy tg G S) (gi : GI G) {i : Nat} (hi : (i : Int) < G 14 1) {v : Int} (hv : 0 ≤ v) : ∀ (d j fu : Nat), (G 18 i).toNat + 1 = j + d → d < fu → f_X5_pins_17 fu v (some (sh i)) (tot G i v false j : Int) ((j : Int) - 1) S = some ((0, (tt G i v false : Int), none), S) := by
  intro d
  have l2 := gi.ni hi
  induction d with
  | zero =>
    intro j fu hj hf
    obtain ⟨fu, rfl⟩ : ∃ z, fu = z + 1 := ⟨fu - 1, by omega⟩
    unfold f_X5_pins_17
    rw [c_in C hi, Option.bind_some, c_a2 C hi, Option.bind_some, if_pos (by omega), rI_s, show j = (G 18 i).toNat + 1 by omega]
    rfl
  | succ d ih =>
    intro j fu hj hf
    obtain ⟨fu, rfl⟩ : ∃ z, fu = z + 1 := ⟨fu - 1, by omega⟩
    have hjn : (j : Int) ≤ G 18 i := by omega
    have lt : tot G i v false j ≤ 128 * j := sj_le j (fun z hz => Nat.le_trans (cnt_le _ _) (np_le gi hi (by omega)).1)
    have ll := nl_np gi hi hjn
    have e48 := pins_48 C gi hi hjn v (some (sh i)) (f_X5_pins_17 fu) (c0 := tot G i v false j) (by omega) (nl G i j) 0 FU (by omega) (FU_gt (by omega))
    rw [cnt_nl gi hi hjn hv] at e48
    have step := ih (j + 1) fu (by omega) (by omega)
    rw [show ((j + 1 : Nat) : Int) - 1 = j by omega] at step
    conv => lhs; unfold f_X5_pins_17
    rw [c_in C hi, Option.bind_some, c_a2 C hi, Option.bind_some, if_neg (by omega), Option.bind_some, gd_t (c_k1 C hi), c_no C gi hi hjn, cR_s, c_nl C gi hi hjn, Option.bind_some]
    exact e48.trans step
theorem x_pins (C : Cls sh ins pl nt wy tg G S) (hs : Stt S) (gi : GI G) (x y : Int) : (¬ ((0 ≤ x ∧ x < G 14 1) ∧ 0 ≤ y ∧ y < G 20 x.toNat) → CO S (f_X5_pins (some 0) x y S) 1 0) ∧ ((0 ≤ x ∧ x < G 14 1) ∧ 0 ≤ y ∧ y < G 20 x.toNat → CO S (f_X5_pins (some 0) x y S) 0 (tt G x.toNat y false)) := by
  have h := hs.1
  have k0 := fk_0 h
  constructor
  · intro hn
    unfold f_X5_pins
    rw [gd_t k0]
    by_cases hx : 0 ≤ x ∧ x < G 14 1
    · rw [shellAt_t C h gi hx, cR_s, reqNet_f C (i := x.toNat) (by omega) (fun q => hn ⟨hx, q⟩), cV_X]
      exact CO.x (Sc.rfl' S) hs
    · rw [shellAt_f C h hx, cR_X]
      exact CO.x (Sc.rfl' S) hs
  · intro hp
    have ln := gi.ni (i := x.toNat) (by omega)
    have e := pins_17 C gi (i := x.toNat) (by omega) hp.2.1 ((G 18 x.toNat).toNat + 1) 0 FU (by omega) (FU_gt (by omega))
    unfold f_X5_pins
    rw [gd_t k0, shellAt_t C h gi hp.1, cR_s, reqNet_t C (i := x.toNat) (by omega) hp.2, cV_s]
    rw [show f_X5_pins_17 FU y (some (sh x.toNat)) 0 (-1) S = _ from e]
    exact CO.v (Sc.rfl' S) hs
theorem x_shared (C : Cls sh ins pl nt wy tg G S) (hs : Stt S) (gi : GI G) (x y : Int) : (¬ ((0 ≤ x ∧ x < G 14 1) ∧ 0 ≤ y ∧ y < G 14 1) → CO S (f_X5_shared (some 0) x y S) 1 0) ∧ ((0 ≤ x ∧ x < G 14 1) ∧ 0 ≤ y ∧ y < G 14 1 → CO S (f_X5_shared (some 0) x y S) 0 (Bo (G 21 x.toNat = G 21 y.toNat))) := by
  have h := hs.1
  have k0 := fk_0 h
  constructor
  · intro hn
    unfold f_X5_shared
    rw [gd_t k0]
    by_cases hx : 0 ≤ x ∧ x < G 14 1
    · rw [shellAt_t C h gi hx, cR_s, c_in C (by omega), Option.bind_some, gd_t k0, shellAt_f C h (fun q => hn ⟨hx, q⟩), cR_X]
      exact CO.x (Sc.rfl' S) hs
    · rw [shellAt_f C h hx, cR_X]
      exact CO.x (Sc.rfl' S) hs
  · intro hp
    unfold f_X5_shared
    rw [gd_t k0, shellAt_t C h gi hp.1, cR_s, c_in C (by omega), Option.bind_some, gd_t k0, shellAt_t C h gi hp.2, cR_s, c_in C (by omega), Option.bind_some]
    have sym := C.2.2 x.toNat y.toNat (by omega) (by omega)
    by_cases c : G 21 x.toNat = G 21 y.toNat
    · rw [if_pos (by rw [sym.mpr c]), rZ_1, Bo_t c]
      exact CO.v (Sc.rfl' S) hs
    · rw [if_neg (fun q => c (sym.mp (Option.some.inj q))), rZ_0, Bo_f c]
      exact CO.v (Sc.rfl' S) hs
theorem x_modules (C : Cls sh ins pl nt wy tg G S) (hs : Stt S) : CO S (f_X5_modules (some 0) S) 0 (G 14 1) := by
  unfold f_X5_modules
  rw [c_n C hs.1, Option.bind_some, rI_s]
  exact CO.v (Sc.rfl' S) hs
theorem x_moduleOf (C : Cls sh ins pl nt wy tg G S) (hs : Stt S) (gi : GI G) (x y : Int) : (¬ ((0 ≤ x ∧ x < G 14 1) ∧ 0 ≤ y ∧ y < G 18 x.toNat) → CO S (f_X5_moduleOf (some 0) x y S) 1 0) ∧ ((0 ≤ x ∧ x < G 14 1) ∧ 0 ≤ y ∧ y < G 18 x.toNat → CO S (f_X5_moduleOf (some 0) x y S) 0 (fo G x.toNat y.toNat)) := by
  have h := hs.1
  have k0 := fk_0 h
  constructor
  · intro hn
    unfold f_X5_moduleOf
    rw [gd_t k0]
    by_cases hx : 0 ≤ x ∧ x < G 14 1
    · rw [shellAt_t C h gi hx, cR_s, placementAt_f C (i := x.toNat) (by omega) (fun q => hn ⟨hx, q⟩), cR_X]
      exact CO.x (Sc.rfl' S) hs
    · rw [shellAt_f C h hx, cR_X]
      exact CO.x (Sc.rfl' S) hs
  · intro hp
    have hf := gi.fv (i := x.toNat) (k := y.toNat) (by omega) (by omega)
    unfold f_X5_moduleOf
    rw [gd_t k0, shellAt_t C h gi hp.1, cR_s, placementAt_t C gi (i := x.toNat) (by omega) hp.2, cR_s, c_p0 C (by omega) (by omega), Option.bind_some, c_i0 C hf.2, Option.bind_some, rI_s]
    exact CO.v (Sc.rfl' S) hs
theorem x_path (C : Cls sh ins pl nt wy tg G S) (hs : Stt S) (gi : GI G) (x y z : Int) : (¬ ((0 ≤ x ∧ x < G 14 1) ∧ (0 ≤ y ∧ y < G 18 x.toNat) ∧ 0 ≤ z) → CO S (f_X5_path (some 0) x y z S) 1 0) ∧ (((0 ≤ x ∧ x < G 14 1) ∧ (0 ≤ y ∧ y < G 18 x.toNat) ∧ 0 ≤ z) → CO S (f_X5_path (some 0) x y z S) 0 (pth G x.toNat y.toNat z)) := by
  have h := hs.1
  have k0 := fk_0 h
  constructor
  · intro hn
    unfold f_X5_path
    rw [gd_t k0]
    by_cases hx : 0 ≤ x ∧ x < G 14 1
    · rw [shellAt_t C h gi hx, cR_s]
      by_cases hy : 0 ≤ y ∧ y < G 18 x.toNat
      · rw [placementAt_t C gi (i := x.toNat) (by omega) hy, cR_s, c_p1 C (by omega) (by omega), Option.bind_some, if_neg (fun q => hn ⟨hx, hy, q⟩)]
        exact CO.x (Sc.rfl' S) hs
      · rw [placementAt_f C (i := x.toNat) (by omega) hy, cR_X]
        exact CO.x (Sc.rfl' S) hs
    · rw [shellAt_f C h hx, cR_X]
      exact CO.x (Sc.rfl' S) hs
  · rintro ⟨hx, hy, hz⟩
    obtain ⟨-, -, -, -, hw, -, w0, w1⟩ := C.pa (i := x.toNat) (k := y.toNat) (by omega) (by omega)
    have hl := (gi.at (i := x.toNat) (by omega)).2.2.2.2.2.2.1 y.toNat (by omega)
    unfold f_X5_path
    rw [gd_t k0, shellAt_t C h gi hx, cR_s, placementAt_t C gi (i := x.toNat) (by omega) hy, cR_s, c_p1 C (by omega) (by omega), Option.bind_some, if_pos hz, ln_at hw.2.2, Option.bind_some]
    unfold pth
    by_cases c : G 23 (64 * x.toNat + y.toNat) = 0
    · obtain ⟨w2, w3⟩ := w0 c
      rw [if_pos c]
      by_cases c2 : z = 0
      · rw [if_neg (by omega), if_pos c2, aI_at hw.2.2 (by omega) (by omega), Option.bind_some, c2, show (0 : Int).toNat = 0 from rfl, w3, rI_s]
        exact CO.v (Sc.rfl' S) hs
      · rw [if_pos (by omega), if_neg c2, rI_s]
        exact CO.v (Sc.rfl' S) hs
    · obtain ⟨w2, w3⟩ := w1 c
      rw [if_neg c]
      by_cases c2 : z < G 23 (64 * x.toNat + y.toNat)
      · rw [if_neg (by omega), if_pos c2, aI_at hw.2.2 (by omega) (by omega), Option.bind_some, w3 z.toNat (by omega), rI_s]
        exact CO.v (Sc.rfl' S) hs
      · rw [if_pos (by omega), if_neg c2, rI_s]
        exact CO.v (Sc.rfl' S) hs
/-! the k-th pin -/
theorem wz_ne {y : Int} (h1 : -4294967296 < y) (h2 : y < 0) : wz y ≠ 0 := by
  unfold wz
  rw [Int32.toInt_ofInt]
  unfold Int.bmod
  simp only [Int32.size]
  split <;> omega
theorem wz_m1 (y : Int) : wz (wz y + -1) = wz (y - 1) := by
  unfold wz
  rw [Int32.ofInt_add, Int32.ofInt_toInt, ← Int32.ofInt_add]
  rfl
theorem placeOf_25n (C : Cls sh ins pl nt wy tg G S) (gi : GI G) {i j : Nat} (hi : (i : Int) < G 14 1) (hj : (j : Int) ≤ G 18 i) (v : Int) {k : Int} (hk : -2147483648 ≤ k ∧ k < 0) (a0 : Option Nat) (k5 : Option Nat → Int → Int → Int → AS → Option RS) : ∀ (d p fu c : Nat), c + d ≤ 100000 → nl G i j = p + d → d < fu → ∃ c' : Nat, c' ≤ c + d ∧ f_X5_placeOf_25 fu k5 a0 v (wz (k - c)) ((j : Int) - 1) (some (na ins nt i j)) p S = k5 a0 v (wz (k - c')) (j : Int) S := by
  intro d
  have l2 := gi.ni hi
  have l3 := nl_np gi hi hj
  induction d with
  | zero =>
    intro p fu c hc hp hf
    obtain ⟨fu, rfl⟩ : ∃ z, fu = z + 1 := ⟨fu - 1, by omega⟩
    refine ⟨c, Nat.le_refl _, ?_⟩
    unfold f_X5_placeOf_25
    rw [c_nl C gi hi hj, Option.bind_some, if_pos (by omega), chk_ok (by omega) (by omega), Option.bind_some, show (j : Int) - 1 + 1 = j by omega]
  | succ d ih =>
    intro p fu c hc hp hf
    obtain ⟨fu, rfl⟩ : ∃ z, fu = z + 1 := ⟨fu - 1, by omega⟩
    have er := c_na C gi hi hj (q := p) (by omega)
    have hw : wz (k - c) ≠ 0 := wz_ne (by omega) (by omega)
    have e0 : f_X5_placeOf_25 (fu + 1) k5 a0 v (wz (k - c)) ((j : Int) - 1) (some (na ins nt i j)) p S = (if qn G i j p = v then f_X5_placeOf_25 fu k5 a0 v (wz (wz (k - c) + -1)) ((j : Int) - 1) (some (na ins nt i j)) ((p : Int) + 1) S else f_X5_placeOf_25 fu k5 a0 v (wz (k - c)) ((j : Int) - 1) (some (na ins nt i j)) ((p : Int) + 1) S) := by
      conv => lhs; unfold f_X5_placeOf_25
      rw [c_nl C gi hi hj, Option.bind_some, if_neg (by omega), er, Option.bind_some, chk_ok (x := (p : Int) + 1) (by omega) (by omega), Option.bind_some, Option.bind_some, if_neg hw]
      rfl
    by_cases c1 : qn G i j p = v
    · obtain ⟨c', h1, h2⟩ := ih (p + 1) fu (c + 1) (by omega) (by omega) (by omega)
      refine ⟨c', by omega, ?_⟩
      rw [e0, if_pos c1, wz_m1, show k - (c : Int) - 1 = k - ((c + 1 : Nat) : Int) by omega]
      exact h2
    · obtain ⟨c', h1, h2⟩ := ih (p + 1) fu c (by omega) (by omega) (by omega)
      refine ⟨c', by omega, ?_⟩
      rw [e0, if_neg c1]
      exact h2
theorem placeOf_5n (C : Cls sh ins pl nt wy tg G S) (gi : GI G) {i : Nat} (hi : (i : Int) < G 14 1) (v : Int) {k : Int} (hk : -2147483648 ≤ k ∧ k < 0) : ∀ (d j fu c : Nat), c ≤ 128 * j → (G 18 i).toNat + 1 = j + d → d < fu → f_X5_placeOf_5 fu (some (ins i)) v (wz (k - c)) ((j : Int) - 1) S = some ((0, -1, none), S) := by
  intro d
  have l2 := gi.ni hi
  induction d with
  | zero =>
    intro j fu c hc hj hf
    obtain ⟨fu, rfl⟩ : ∃ z, fu = z + 1 := ⟨fu - 1, by omega⟩
    unfold f_X5_placeOf_5
    rw [c_a2 C hi, Option.bind_some, if_pos (by omega), rI_s]
  | succ d ih =>
    intro j fu c hc hj hf
    obtain ⟨fu, rfl⟩ : ∃ z, fu = z + 1 := ⟨fu - 1, by omega⟩
    have hjn : (j : Int) ≤ G 18 i := by omega
    have ll := nl_np gi hi hjn
    obtain ⟨c', h1, h2⟩ := placeOf_25n C gi hi hjn v hk (some (ins i)) (f_X5_placeOf_5 fu) (nl G i j) 0 FU c (by omega) (by omega) (FU_gt (by omega))
    have step := ih (j + 1) fu c' (by omega) (by omega) (by omega)
    rw [show ((j + 1 : Nat) : Int) - 1 = j by omega] at step
    conv => lhs; unfold f_X5_placeOf_5
    rw [c_a2 C hi, Option.bind_some, if_neg (by omega), gd_t (c_k1 C hi), c_no C gi hi hjn, cR_s]
    exact h2.trans step
theorem placeOf_25p (C : Cls sh ins pl nt wy tg G S) (gi : GI G) {i j : Nat} (hi : (i : Int) < G 14 1) (hj : (j : Int) ≤ G 18 i) (v : Int) (a0 : Option Nat) (k5 : Option Nat → Int → Int → Int → AS → Option RS) : ∀ (d p fu : Nat) (left : Int), 0 ≤ left → left ≤ 2147483647 → nl G i j = p + d → d < fu → f_X5_placeOf_25 fu k5 a0 v left ((j : Int) - 1) (some (na ins nt i j)) p S = if (fnd (mt G i v false j) d p left).1 = -1 then k5 a0 v (fnd (mt G i v false j) d p left).2 (j : Int) S else some ((0, (j : Int) * 128 + (fnd (mt G i v false j) d p left).1, none), S) := by
  intro d
  have l2 := gi.ni hi
  have l3 := nl_np gi hi hj
  induction d with
  | zero =>
    intro p fu left hl hl2 hp hf
    obtain ⟨fu, rfl⟩ : ∃ z, fu = z + 1 := ⟨fu - 1, by omega⟩
    unfold f_X5_placeOf_25 fnd
    rw [c_nl C gi hi hj, Option.bind_some, if_pos (by omega), chk_ok (by omega) (by omega), Option.bind_some, show (j : Int) - 1 + 1 = j by omega, if_pos rfl]
  | succ d ih =>
    intro p fu left hl hl2 hp hf
    obtain ⟨fu, rfl⟩ : ∃ z, fu = z + 1 := ⟨fu - 1, by omega⟩
    have er := c_na C gi hi hj (q := p) (by omega)
    conv => lhs; unfold f_X5_placeOf_25
    rw [c_nl C gi hi hj, Option.bind_some, if_neg (by omega), er, Option.bind_some, chk_ok (x := (p : Int) + 1) (by omega) (by omega), Option.bind_some, Option.bind_some]
    unfold fnd
    by_cases c1 : qn G i j p = v
    · have : mt G i v false j p = true := by simp [mt, c1]
      rw [if_pos c1, if_pos this]
      by_cases c2 : left = 0
      · have np1 : ¬ (((p : Int), (0 : Int)).1 = -1) := by show ¬ ((p : Int) = -1); omega
        rw [if_pos c2, if_pos c2, if_neg np1, show (j : Int) - 1 + 1 = j by omega]
        simp (disch := omega) only [Option.bind_some, chk_ok, gd_1, rI_s]
      · rw [if_neg c2, if_neg c2, wz_ok (by omega)]
        exact ih (p + 1) fu (left - 1) (by omega) (by omega) (by omega) (by omega)
    · have : ¬ mt G i v false j p = true := by simp [mt, c1]
      rw [if_neg c1, if_neg this]
      exact ih (p + 1) fu left hl hl2 (by omega) (by omega)
theorem placeOf_5p (C : Cls sh ins pl nt wy tg G S) (gi : GI G) {i : Nat} (hi : (i : Int) < G 14 1) {v : Int} (hv : 0 ≤ v) : ∀ (d j fu : Nat) (left : Int), 0 ≤ left → left ≤ 2147483647 → (G 18 i).toNat + 1 = j + d → d < fu → f_X5_placeOf_5 fu (some (ins i)) v left ((j : Int) - 1) S = some ((0, if (fnd2 (mt G i v false) (np G i) d j left).1 = -1 then -1 else (fnd2 (mt G i v false) (np G i) d j left).1 * 128 + (fnd2 (mt G i v false) (np G i) d j left).2, none), S) := by
  intro d
  have l2 := gi.ni hi
  induction d with
  | zero =>
    intro j fu left hl hl2 hj hf
    obtain ⟨fu, rfl⟩ : ∃ z, fu = z + 1 := ⟨fu - 1, by omega⟩
    unfold f_X5_placeOf_5 fnd2
    rw [c_a2 C hi, Option.bind_some, if_pos (by omega), rI_s, if_pos rfl]
  | succ d ih =>
    intro j fu left hl hl2 hj hf
    obtain ⟨fu, rfl⟩ : ∃ z, fu = z + 1 := ⟨fu - 1, by omega⟩
    have hjn : (j : Int) ≤ G 18 i := by omega
    have ll := nl_np gi hi hjn
    have e25 := placeOf_25p C gi hi hjn v (some (ins i)) (f_X5_placeOf_5 fu) (nl G i j) 0 FU left hl hl2 (by omega) (FU_gt (by omega))
    rw [fnd_nl gi hi hjn hv] at e25
    conv => lhs; unfold f_X5_placeOf_5
    rw [c_a2 C hi, Option.bind_some, if_neg (by omega), gd_t (c_k1 C hi), c_no C gi hi hjn, cR_s]
    refine Eq.trans e25 ?_
    unfold fnd2
    by_cases c : (fnd (mt G i v false j) (np G i j) 0 left).1 = -1
    · rw [if_pos c, if_pos c]
      obtain ⟨q1, q2⟩ := fnd_pos (f := mt G i v false j) (np G i j) 0 hl
      have c0 : cnt (mt G i v false j) 0 = 0 := rfl
      have : (fnd (mt G i v false j) (np G i j) 0 left).2 = left - cnt (mt G i v false j) (np G i j) ∧ (cnt (mt G i v false j) (np G i j) : Int) ≤ left := by
        rw [Nat.zero_add, c0] at q1 q2
        by_cases z : (cnt (mt G i v false j) (np G i j) : Int) ≤ left
        · have := (q1 (by omega)).2
          exact ⟨by omega, z⟩
        · have := (q2 (by omega)).1
          omega
      have st := ih (j + 1) fu (fnd (mt G i v false j) (np G i j) 0 left).2 (by omega) (by omega) (by omega) (by omega)
      rw [show ((j + 1 : Nat) : Int) - 1 = j by omega] at st
      exact st
    · rw [if_neg c, if_neg c, if_neg (by simp only; omega)]
theorem isDriver_eq (C : Cls sh ins pl nt wy tg G S) (gi : GI G) {i j p : Nat} (hi : (i : Int) < G 14 1) (hj : (j : Int) ≤ G 18 i) (hp : p < np G i j) : f_X5_isDriver (some (sh i)) ((j : Int) - 1) p S = some ((0, dv G i j p, none), S) := by
  have l3 := np_le gi hi hj
  have l4 := jm_lt gi hi hj
  unfold f_X5_isDriver dv
  by_cases hj0 : j = 0
  · subst hj0
    rw [show jm G i 0 = i from rfl] at l3
    rw [if_pos (by omega), if_pos rfl, c_s2 C hi, Option.bind_some, c_ob C gi hi (by omega), Option.bind_some]
    rcases ob_01 (gi.pw hi) (q := p) with e | e
    · rw [e, if_pos rfl, rZ_1]; rfl
    · rw [e, if_neg (by decide), rZ_0]; rfl
  · have ej : jm G i j = fo G i (j - 1) := if_neg hj0
    rw [ej] at l3 l4
    have e := c_pl C gi hi (k := j - 1) (by omega)
    rw [show ((j - 1 : Nat) : Int) = (j : Int) - 1 by omega] at e
    rw [if_neg (by omega), if_neg hj0, c_in C hi, Option.bind_some, c_a1 C hi, Option.bind_some, e, Option.bind_some, c_p0 C hi (by omega), Option.bind_some, c_s2 C l4, Option.bind_some, c_ob C gi l4 (by omega), Option.bind_some, ej]
    exact rZ_ok (ob_01 (gi.pw l4))
theorem x_pin (C : Cls sh ins pl nt wy tg G S) (hs : Stt S) (gi : GI G) (x y k w : Int) (hk : -2147483648 ≤ k ∧ k ≤ 2147483647) : (¬ ((0 ≤ x ∧ x < G 14 1) ∧ (0 ≤ y ∧ y < G 20 x.toNat) ∧ (0 ≤ w ∧ w < 3) ∧ (pf G x.toNat y k).1 ≠ -1) → CO S (f_X5_pin (some 0) x y k w S) 1 0) ∧ (((0 ≤ x ∧ x < G 14 1) ∧ (0 ≤ y ∧ y < G 20 x.toNat) ∧ (0 ≤ w ∧ w < 3) ∧ (pf G x.toNat y k).1 ≠ -1) → CO S (f_X5_pin (some 0) x y k w S) 0 (pinv G x.toNat w (pf G x.toNat y k).1 (pf G x.toNat y k).2)) := by
  have h := hs.1
  have k0 := fk_0 h
  have po : (0 ≤ x ∧ x < G 14 1) → 0 ≤ y → f_X5_placeOf (some (ins x.toNat)) y k S = some ((0, if (pf G x.toNat y k).1 = -1 then -1 else (pf G x.toNat y k).1 * 128 + (pf G x.toNat y k).2, none), S) := by
    intro hx hy
    have ln := gi.ni (i := x.toNat) (by omega)
    unfold f_X5_placeOf
    by_cases c : 0 ≤ k
    · exact placeOf_5p C gi (i := x.toNat) (by omega) hy ((G 18 x.toNat).toNat + 1) 0 FU k c hk.2 (by omega) (FU_gt (by omega))
    · have e := placeOf_5n C gi (i := x.toNat) (by omega) y (k := k) (by omega) ((G 18 x.toNat).toNat + 1) 0 FU 0 (by omega) (by omega) (FU_gt (by omega))
      rw [show k - ((0 : Nat) : Int) = k by omega, wz_ok hk] at e
      rw [if_pos (pf_none.mpr (by omega))]
      exact e
  constructor
  · intro hn
    unfold f_X5_pin
    rw [gd_t k0]
    by_cases hx : 0 ≤ x ∧ x < G 14 1
    · rw [shellAt_t C h gi hx, cR_s]
      by_cases hy : 0 ≤ y ∧ y < G 20 x.toNat
      · rw [reqNet_t C (i := x.toNat) (by omega) hy, cV_s]
        by_cases hw : 0 ≤ w ∧ w < 3
        · have hp : (pf G x.toNat y k).1 = -1 := Decidable.byContradiction (fun q => hn ⟨hx, hy, hw, q⟩)
          rw [within_t hw, cV_s, c_in C (by omega), Option.bind_some, po hx hy.1, cI_s, if_pos hp, if_pos rfl]
          exact CO.x (Sc.rfl' S) hs
        · rw [within_f hw, cV_X]
          exact CO.x (Sc.rfl' S) hs
      · rw [reqNet_f C (i := x.toNat) (by omega) hy, cV_X]
        exact CO.x (Sc.rfl' S) hs
    · rw [shellAt_f C h hx, cR_X]
      exact CO.x (Sc.rfl' S) hs
  · rintro ⟨hx, hy, hw, hp⟩
    have ln := gi.ni (i := x.toNat) (by omega)
    have hk2 : 0 ≤ k ∧ k < tt G x.toNat y false := Decidable.byContradiction (fun q => hp (pf_none.mpr q))
    have e := (fnd2_spec (mt G x.toNat y false) (np G x.toNat) ((G 18 x.toNat).toNat + 1) 0 k).2
    have s0 : sj (fun j => cnt (mt G x.toNat y false j) (np G x.toNat j)) 0 = 0 := rfl
    rw [Nat.zero_add, s0] at e
    have e2 : sj (fun j => cnt (mt G x.toNat y false j) (np G x.toNat j)) ((G 18 x.toNat).toNat + 1) = tt G x.toNat y false := rfl
    rw [e2] at e
    obtain ⟨f1, f2, f3, f4, f5⟩ := e (by omega)
    have hpo := po hx hy.1
    rw [if_neg hp] at hpo
    have hp0 := hp
    unfold pf at hp hpo ⊢
    generalize fnd2 (mt G x.toNat y false) (np G x.toNat) ((G 18 x.toNat).toNat + 1) 0 k = r at f1 f2 f3 f4 f5 hp hpo ⊢
    obtain ⟨r1, r2⟩ := r
    simp only at f1 f2 f3 f4 f5 hp hpo ⊢
    have l5 := (np_le gi (m := x.toNat) (j := r1.toNat) (by omega) (by omega)).1
    have dr := isDriver_eq C gi (i := x.toNat) (j := r1.toNat) (p := r2.toNat) (by omega) (by omega) (by omega)
    rw [show ((r1.toNat : Nat) : Int) - 1 = r1 - 1 by omega, show ((r2.toNat : Nat) : Int) = r2 by omega] at dr
    have d1 : dvI (r1 * 128 + r2) 128 = some r1 := by
      unfold dvI
      rw [if_pos (by omega)]
      congr 1
      omega
    have d2 : rmI (r1 * 128 + r2) 128 = some r2 := by
      unfold rmI
      rw [if_pos (by omega)]
      congr 1
      omega
    unfold f_X5_pin
    rw [gd_t k0, shellAt_t C h gi hx, cR_s, reqNet_t C (i := x.toNat) (by omega) hy, cV_s, within_t hw, cV_s, c_in C (by omega), Option.bind_some, hpo, cI_s, if_neg (by omega), d1, Option.bind_some, chk_ok (by omega) (by omega), Option.bind_some, d2, Option.bind_some]
    unfold pinv
    by_cases w0 : w = 0
    · rw [if_pos w0, if_pos w0, rI_s]
      exact CO.v (Sc.rfl' S) hs
    · rw [if_neg w0, if_neg w0]
      by_cases w1 : w = 1
      · rw [if_pos w1, if_pos w1, rI_s]
        exact CO.v (Sc.rfl' S) hs
      · rw [if_neg w1, if_neg w1, dr, cI_s]
        rcases dv_01 gi (m := x.toNat) (j := r1.toNat) (by omega) (by omega) r2.toNat with e | e
        · rw [e, if_pos rfl, rI_s]
          exact CO.v (Sc.rfl' S) hs
        · rw [e, if_neg (by decide), rI_s]
          exact CO.v (Sc.rfl' S) hs
end
