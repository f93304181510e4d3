/-! isUsed, port, path -/
theorem isUsed_12 {G : Nat → Nat → Int} {S : AS} (h : Fix S) (g : Ag G S) (gi : GI G) {j m : Nat} (hj : (j : Int) < G 14 1) (k2 : Option Nat → Int → Int → AS → Option RS) : ∀ (d k fu : Nat), (G 18 j).toNat = k + d → d < fu → ((∃ k' : Nat, k ≤ k' ∧ (k' : Int) < G 18 j ∧ fo G j k' = m) → f_X6_isUsed_12 fu k2 (some 14) m j k S = some ((0, 1, none), S)) ∧ ((¬ ∃ k' : Nat, k ≤ k' ∧ (k' : Int) < G 18 j ∧ fo G j k' = m) → f_X6_isUsed_12 fu k2 (some 14) m j k S = k2 (some 14) m ((j : Int) + 1) S) := by
  intro d
  have lj := gi.lt hj
  have ln := gi.ni hj
  induction d with
  | zero =>
    intro k fu hk hf
    obtain ⟨fu, rfl⟩ : ∃ z, fu = z + 1 := ⟨fu - 1, by omega⟩
    have e : f_X6_isUsed_12 (fu + 1) k2 (some 14) m j k S = k2 (some 14) m ((j : Int) + 1) S := by
      unfold f_X6_isUsed_12
      simp (disch := omega) only [fr_14_2 h, fr_14_3 h, fr_14_4 h, fr_14_5 h, fr_14_6 h, fr_14_7 h, fr_14_8 h, fr_14_10 h, fr_14_11 h, fr_14_12 h, ma_15 h g, ma_16 h g, ma_17 h g, ma_18 h g, ma_19 h g, ma_20 h g, ma_21 h g, ma_22 h g, ma_23 h g, ma_24 h g, mg_1 h g, mg_9 h g, mg_0 h, fp_14 h, fk_14 h, Option.bind_some, chk_ok, gd_1, tn]
      rw [if_pos (by omega)]
    refine ⟨fun ⟨k', h1, h2, _⟩ => absurd h2 (by omega), fun _ => e⟩
  | succ d ih =>
    intro k fu hk hf
    obtain ⟨fu, rfl⟩ : ∃ z, fu = z + 1 := ⟨fu - 1, by omega⟩
    have ef := gi.fv hj (k := k) (by omega)
    have e1 : (64 * (j : Int) + (k : Int)).toNat = 64 * j + k := by omega
    have e : f_X6_isUsed_12 (fu + 1) k2 (some 14) m j k S = if fo G j k = m then some ((0, 1, none), S) else f_X6_isUsed_12 fu k2 (some 14) m j ((k + 1 : Nat) : Int) S := by
      conv => lhs; unfold f_X6_isUsed_12
      simp (disch := omega) only [fr_14_2 h, fr_14_3 h, fr_14_4 h, fr_14_5 h, fr_14_6 h, fr_14_7 h, fr_14_8 h, fr_14_10 h, fr_14_11 h, fr_14_12 h, ma_15 h g, ma_16 h g, ma_17 h g, ma_18 h g, ma_19 h g, ma_20 h g, ma_21 h g, ma_22 h g, ma_23 h g, ma_24 h g, mg_1 h g, mg_9 h g, mg_0 h, fp_14 h, fk_14 h, Option.bind_some, chk_ok, gd_1, tn, e1]
      rw [if_neg (by omega), ef.1]
      by_cases c : fo G j k = m
      · rw [if_pos (by omega), if_pos c, rZ_1]
      · rw [if_neg (by omega), if_neg c]
        rfl
    rw [e]
    obtain ⟨i1, i2⟩ := ih (k + 1) fu (by omega) (by omega)
    by_cases c : fo G j k = m
    · rw [if_pos c]
      exact ⟨fun _ => rfl, fun q => absurd ⟨k, Nat.le_refl _, by omega, c⟩ q⟩
    · rw [if_neg c]
      constructor
      · rintro ⟨k', h1, h2, h3⟩
        refine i1 ⟨k', ?_, h2, h3⟩
        rcases Nat.lt_or_eq_of_le h1 with z | z
        · exact z
        · subst z; exact absurd h3 c
      · intro q
        exact i2 (fun ⟨k', h1, h2, h3⟩ => q ⟨k', by omega, h2, h3⟩)
theorem isUsed_2 {G : Nat → Nat → Int} {S : AS} (h : Fix S) (g : Ag G S) (gi : GI G) {m : Nat} : ∀ (d j fu : Nat), (G 14 1).toNat = j + d → d < fu → ((∃ j' k' : Nat, j ≤ j' ∧ (j' : Int) < G 14 1 ∧ (k' : Int) < G 18 j' ∧ fo G j' k' = m) → f_X6_isUsed_2 fu (some 14) m j S = some ((0, 1, none), S)) ∧ ((¬ ∃ j' k' : Nat, j ≤ j' ∧ (j' : Int) < G 14 1 ∧ (k' : Int) < G 18 j' ∧ fo G j' k' = m) → f_X6_isUsed_2 fu (some 14) m j S = some ((0, 0, none), S)) := by
  intro d
  have l0 := gi.1
  induction d with
  | zero =>
    intro j fu hk hf
    obtain ⟨fu, rfl⟩ : ∃ z, fu = z + 1 := ⟨fu - 1, by omega⟩
    have e : f_X6_isUsed_2 (fu + 1) (some 14) m j S = some ((0, 0, none), S) := by
      unfold f_X6_isUsed_2
      simp only [mg_1 h g, Option.bind_some]
      rw [if_pos (by omega), rZ_0]
    exact ⟨fun ⟨j', k', h1, h2, _⟩ => absurd h2 (by omega), fun _ => e⟩
  | succ d ih =>
    intro j fu hk hf
    obtain ⟨fu, rfl⟩ : ∃ z, fu = z + 1 := ⟨fu - 1, by omega⟩
    obtain ⟨i1, i2⟩ := ih (j + 1) fu (by omega) (by omega)
    have hj : (j : Int) < G 14 1 := by omega
    have ln := gi.ni hj
    obtain ⟨u1, u2⟩ := isUsed_12 h g gi (m := m) hj (f_X6_isUsed_2 fu) (G 18 j).toNat 0 FU (by omega) (FU_gt (by omega))
    have e : f_X6_isUsed_2 (fu + 1) (some 14) m j S = f_X6_isUsed_12 FU (f_X6_isUsed_2 fu) (some 14) m j ((0 : Nat) : Int) S := by
      conv => lhs; unfold f_X6_isUsed_2
      simp only [mg_1 h g, Option.bind_some]
      rw [if_neg (by omega)]
      rfl
    rw [e]
    by_cases c : ∃ k' : Nat, 0 ≤ k' ∧ (k' : Int) < G 18 j ∧ fo G j k' = m
    · rw [u1 c]
      obtain ⟨k', _, h2, h3⟩ := c
      exact ⟨fun _ => rfl, fun q => absurd ⟨j, k', Nat.le_refl _, hj, h2, h3⟩ q⟩
    · rw [u2 c]
      constructor
      · rintro ⟨j', k', h1, h2, h3, h4⟩
        refine i1 ⟨j', k', ?_, h2, h3, h4⟩
        rcases Nat.lt_or_eq_of_le h1 with z | z
        · exact z
        · subst z; exact absurd ⟨k', Nat.zero_le _, h3, h4⟩ c
      · intro q
        exact i2 (fun ⟨j', k', h1, h2, h3, h4⟩ => q ⟨j', k', by omega, h2, h3, h4⟩)
theorem isUsed_eq {G : Nat → Nat → Int} {S : AS} (h : Fix S) (g : Ag G S) (gi : GI G) (m : Nat) [Decidable (used G m)] : f_X6_isUsed (some 14) m S = some ((0, Bo (used G m), none), S) := by
  have l0 := gi.1
  obtain ⟨u1, u2⟩ := isUsed_2 h g gi (m := m) (G 14 1).toNat 0 FU (by omega) (FU_gt (by omega))
  by_cases c : used G m
  · rw [Bo_t c]
    obtain ⟨j, k, h1, h2, h3⟩ := c
    exact u1 ⟨j, k, Nat.zero_le _, h1, h2, h3⟩
  · rw [Bo_f c]
    exact u2 (fun ⟨j, k, _, h1, h2, h3⟩ => c ⟨j, k, h1, h2, h3⟩)
def ptG (G : Nat → Nat → Int) (m : Nat) (w o : Int) : Nat → Nat → Int := uq (uq (uq G 16 (16 * m + (G 15 m).toNat) w) 17 (16 * m + (G 15 m).toNat) o) 15 m (G 15 m + 1)
theorem port_59e {G : Nat → Nat → Int} {S : AS} (h : Fix S) {x y z t : Int} (ht : 0 < t) : f_X6_port_59 (some 14) x y z t (some 14) S = some ((0, 0, none), wI S 14 0 t) := by
  have h1 := h.wI 14 0 t
  unfold f_X6_port_59
  simp only [fp_14 h, Option.bind_some, mg_0 h1, hI_w0]
  rw [if_neg (by omega), rI_s]
theorem m_port {G : Nat → Nat → Int} {S : AS} (h : Fix S) (g : Ag G S) (gi : GI G) (x y z : Int) (hz : z = 0 ∨ z = 1) : (¬ (0 ≤ x ∧ x < G 14 1) → MO S (f_X6_port (some 14) x y z S) 1 0 G) ∧ ((0 ≤ x ∧ x < G 14 1) → (G 15 x.toNat = 16 ∨ used G x.toNat) → MO S (f_X6_port (some 14) x y z S) 2 0 G) ∧ ((0 ≤ x ∧ x < G 14 1) → ¬ (G 15 x.toNat = 16 ∨ used G x.toNat) → ¬ (1 ≤ y ∧ y ≤ 8) → MO S (f_X6_port (some 14) x y z S) 3 0 G) ∧ ((0 ≤ x ∧ x < G 14 1) → ¬ (G 15 x.toNat = 16 ∨ used G x.toNat) → (1 ≤ y ∧ y ≤ 8) → MO S (f_X6_port (some 14) x y z S) 0 (G 15 x.toNat) (ptG G x.toNat y z)) := by
  have hd := Classical.propDecidable (used G x.toNat)
  have l0 := gi.1
  have ug : (0 ≤ x ∧ x < G 14 1) → f_X6_isUsed (some 14) x S = some ((0, Bo (used G x.toNat), none), S) := by
    intro hx
    have := isUsed_eq h g gi x.toNat
    rw [show ((x.toNat : Nat) : Int) = x by omega] at this
    exact this
  refine ⟨fun hx => MO.th g ?_, fun hx hu => MO.th g ?_, fun hx hu hy => MO.th g ?_, fun hx hu hy => ?_⟩
  · unfold f_X6_port
    simp only [mg_1 h g, Option.bind_some, isIn_f hx, cI_s, if_true]
    exact port_59e (G := G) h (by decide)
  · unfold f_X6_port
    simp (disch := omega) only [fr_14_2 h, fr_14_3 h, fr_14_4 h, fr_14_5 h, fr_14_6 h, fr_14_7 h, fr_14_8 h, fr_14_10 h, fr_14_11 h, fr_14_12 h, ma_15 h g, ma_16 h g, ma_17 h g, ma_18 h g, ma_19 h g, ma_20 h g, ma_21 h g, ma_22 h g, ma_23 h g, ma_24 h g, mg_1 h g, mg_9 h g, mg_0 h, fp_14 h, fk_14 h, Option.bind_some, chk_ok, gd_1, isIn_t hx, cI_s, ug hx]
    rw [if_neg (by decide)]
    by_cases c : G 15 x.toNat = 16
    · rw [if_pos c]
      unfold f_X6_port_39
      exact port_59e (G := G) h (by decide)
    · rw [if_neg c, Bo_t (hu.resolve_left c), if_neg (by decide)]
      unfold f_X6_port_39
      exact port_59e (G := G) h (by decide)
  · unfold f_X6_port
    simp (disch := omega) only [fr_14_2 h, fr_14_3 h, fr_14_4 h, fr_14_5 h, fr_14_6 h, fr_14_7 h, fr_14_8 h, fr_14_10 h, fr_14_11 h, fr_14_12 h, ma_15 h g, ma_16 h g, ma_17 h g, ma_18 h g, ma_19 h g, ma_20 h g, ma_21 h g, ma_22 h g, ma_23 h g, ma_24 h g, mg_1 h g, mg_9 h g, mg_0 h, fp_14 h, fk_14 h, Option.bind_some, chk_ok, gd_1, isIn_t hx, cI_s, ug hx]
    rw [if_neg (by decide), if_neg (fun q => hu (Or.inl q)), Bo_f (fun q => hu (Or.inr q)), if_pos rfl]
    unfold f_X6_port_54
    by_cases c : y < 1
    · rw [if_pos c]
      exact port_59e (G := G) h (by decide)
    · rw [if_neg c, if_neg (by omega)]
      exact port_59e (G := G) h (by decide)
  · have pw := gi.pw (i := x.toNat) (by omega)
    have pw1 := pw.1
    have pw2 := pw.2.1
    have n16 : G 15 x.toNat ≠ 16 := fun q => hu (Or.inl q)
    have h1 := h.wI 14 0 0
    have g1 := g.w1 (v := 0) kor_0
    have h2 := h1.wI 16 (16 * x.toNat + (G 15 x.toNat).toNat) y
    have g2 := g1.u1 (a := 16) (k := 16 * x.toNat + (G 15 x.toNat).toNat) (v := y)
    have h3 := h2.wI 17 (16 * x.toNat + (G 15 x.toNat).toNat) z
    have g3 := g2.u1 (a := 17) (k := 16 * x.toNat + (G 15 x.toNat).toNat) (v := z)
    have h4 := h3.wI 15 x.toNat (G 15 x.toNat + 1)
    have g4 := g3.u1 (a := 15) (k := x.toNat) (v := G 15 x.toNat + 1)
    have e1 : (16 * x + G 15 x.toNat).toNat = 16 * x.toNat + (G 15 x.toNat).toNat := by omega
    have r1 : uq G 16 (16 * x.toNat + (G 15 x.toNat).toNat) y 15 x.toNat = G 15 x.toNat := uq_r (by decide)
    have r2 : uq (uq G 16 (16 * x.toNat + (G 15 x.toNat).toNat) y) 17 (16 * x.toNat + (G 15 x.toNat).toNat) z 15 x.toNat = G 15 x.toNat := (uq_r (by decide)).trans r1
    have e9 : f_X6_port (some 14) x y z S = some ((0, G 15 x.toNat, none), wI (wI (wI (wI S 14 0 0) 16 (16 * x.toNat + (G 15 x.toNat).toNat) y) 17 (16 * x.toNat + (G 15 x.toNat).toNat) z) 15 x.toNat (G 15 x.toNat + 1)) := by
      unfold f_X6_port
      simp (disch := omega) only [fr_14_2 h, fr_14_3 h, fr_14_4 h, fr_14_5 h, fr_14_6 h, fr_14_7 h, fr_14_8 h, fr_14_10 h, fr_14_11 h, fr_14_12 h, ma_15 h g, ma_16 h g, ma_17 h g, ma_18 h g, ma_19 h g, ma_20 h g, ma_21 h g, ma_22 h g, ma_23 h g, ma_24 h g, mg_1 h g, mg_9 h g, mg_0 h, fp_14 h, fk_14 h, Option.bind_some, chk_ok, gd_1, isIn_t hx, cI_s, ug hx]
      rw [if_neg (by decide), if_neg n16, Bo_f (fun q => hu (Or.inr q)), if_pos rfl, if_neg (by omega), if_pos (by omega)]
      unfold f_X6_port_59
      simp (disch := omega) only [fp_14 h, Option.bind_some, chk_ok, gd_1, mg_0 h1, hI_w0, fr_14_3 h1, fr_14_2 h1, ma_15 h1 g1, fs_16 h1, e1, fr_14_4 h2, fr_14_2 h2, ma_15 h2 g2, r1, fs_17 h2 hz, fr_14_2 h3, ma_15 h3 g3, r2, fs_15 h3, fr_14_2 h4, ma_15 h4 g4, uq_at, Int.add_sub_cancel, rI_s]
      rw [if_pos (by decide)]
    refine ⟨_, e9, (((MF.w1 S 0 0 (by decide) (by decide)).tr (MF.w1 _ _ _ (by decide) (by decide))).tr (MF.w1 _ _ _ (by decide) (by decide))).tr (MF.w1 _ _ _ (by decide) (by decide)), ?_, g4⟩
    rw [hI_wI, if_neg (by omega), hI_wI, if_neg (by omega), hI_wI, if_neg (by omega), hI_w0]
def pth (G : Nat → Nat → Int) (m k : Nat) (z : Int) : Int := if G 23 (64 * m + k) = 0 then (if z = 0 then k else -1) else if z < G 23 (64 * m + k) then G 24 (24 * (64 * m + k) + z.toNat) else -1
theorem m_path {G : Nat → Nat → Int} {S : AS} (h : Fix S) (g : Ag G S) (gi : GI G) (x y z : Int) : (¬ ((0 ≤ x ∧ x < G 14 1) ∧ (0 ≤ y ∧ y < G 18 x.toNat) ∧ 0 ≤ z) → MO S (f_X6_path (some 14) x y z S) 1 0 G) ∧ (((0 ≤ x ∧ x < G 14 1) ∧ (0 ≤ y ∧ y < G 18 x.toNat) ∧ 0 ≤ z) → MO S (f_X6_path (some 14) x y z S) 0 (pth G x.toNat y.toNat z) G) := by
  have h0 := h.wI 14 0 0
  have g0 := g.w1 (v := 0) kor_0
  have l0 := gi.1
  have bad : f_X6_path_32 (some 14) x y z S = some ((0, 0, none), wI S 14 0 1) := by
    unfold f_X6_path_32 f_X6_path_33
    simp only [if_true]
    unfold f_X6_path_46
    simp only [gd_t (fk_14 h), refused_i h, cI_s]
    rw [if_neg (by decide), rI_s]
  constructor
  · intro hn
    refine MO.th g ?_
    unfold f_X6_path
    by_cases hx : 0 ≤ x ∧ x < G 14 1
    · simp (disch := omega) only [fr_14_2 h, fr_14_3 h, fr_14_4 h, fr_14_5 h, fr_14_6 h, fr_14_7 h, fr_14_8 h, fr_14_10 h, fr_14_11 h, fr_14_12 h, ma_15 h g, ma_16 h g, ma_17 h g, ma_18 h g, ma_19 h g, ma_20 h g, ma_21 h g, ma_22 h g, ma_23 h g, ma_24 h g, mg_1 h g, mg_9 h g, mg_0 h, fp_14 h, fk_14 h, Option.bind_some, chk_ok, gd_1, isIn_t hx, cI_s]
      rw [if_neg (by decide), isIn_eq, cI_s]
      by_cases hy : 0 ≤ y ∧ y < G 18 x.toNat
      · rw [Bo_t hy, if_neg (by decide)]
        by_cases hz : 0 ≤ z
        · exact absurd ⟨hx, hy, hz⟩ hn
        · first | rw [if_neg hz] | rw [if_pos (by omega)]
          exact bad
      · rw [Bo_f hy, if_pos rfl]
        exact bad
    · simp only [mg_1 h g, Option.bind_some, isIn_f hx, cI_s, if_true]
      exact bad
  · rintro ⟨hx, hy, hz⟩
    refine MO.th g ?_
    have l1 := gi.ni (i := x.toNat) (by omega)
    have l2 := (gi.at (i := x.toNat) (by omega)).2.2.2.2.2.2.1 y.toNat (by omega)
    have e1 : (64 * x + y).toNat = 64 * x.toNat + y.toNat := by omega
    unfold f_X6_path
    simp (disch := omega) only [fr_14_2 h, fr_14_3 h, fr_14_4 h, fr_14_5 h, fr_14_6 h, fr_14_7 h, fr_14_8 h, fr_14_10 h, fr_14_11 h, fr_14_12 h, ma_15 h g, ma_16 h g, ma_17 h g, ma_18 h g, ma_19 h g, ma_20 h g, ma_21 h g, ma_22 h g, ma_23 h g, ma_24 h g, mg_1 h g, mg_9 h g, mg_0 h, fp_14 h, fk_14 h, Option.bind_some, chk_ok, gd_1, isIn_t hx, cI_s, isIn_t hy]
    rw [if_neg (by decide), if_neg (by decide)]
    first | rw [if_pos hz] | rw [if_neg (by omega)]
    unfold f_X6_path_33
    rw [if_neg (by decide)]
    unfold f_X6_path_46
    simp (disch := omega) only [fk_14 h, Option.bind_some, chk_ok, gd_1, refused_n h, cI_s, if_true, fr_14_11 h0, ma_23 h0 g0, e1, fr_14_12 h0, rI_s]
    unfold pth
    by_cases c : G 23 (64 * x.toNat + y.toNat) = 0
    · rw [if_pos c, if_pos c]
      by_cases c2 : z = 0
      · rw [if_pos c2, if_pos c2, show ((y.toNat : Nat) : Int) = y by omega]
      · rw [if_neg c2, if_neg c2]
    · rw [if_neg c, if_neg c]
      by_cases c2 : z < G 23 (64 * x.toNat + y.toNat)
      · have e2 : (24 * (64 * x + y) + z).toNat = 24 * (64 * x.toNat + y.toNat) + z.toNat := by omega
        rw [if_neg (by omega), if_pos c2]
        simp (disch := omega) only [Option.bind_some, chk_ok, gd_1, ma_24 h0 g0, e2]
      · rw [if_pos (by omega), if_neg c2]
