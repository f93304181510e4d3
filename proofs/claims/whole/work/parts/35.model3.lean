/-! join, part, shared, path, moduleOf, modules, clear -/
theorem pn_at {G : Nat → Nat → Int} (gi : GI G) {x y z : Int} (hp : isPn G x y z) (S : AS) : x.toNat < 24 ∧ ((x.toNat : Nat) : Int) = x ∧ ((x.toNat : Nat) : Int) < G 14 1 ∧ (((y + 1).toNat : Nat) : Int) ≤ G 18 x.toNat ∧ z.toNat < 128 ∧ jb (y + 1).toNat ≤ 64 ∧ f_X6_at x y z S = some ((0, ((8320 * x.toNat + 128 * jb (y + 1).toNat + z.toNat : Nat) : Int), none), S) := by
  obtain ⟨hx, hy, hz⟩ := hp
  have l1 := gi.lt (i := x.toNat) (by omega)
  have l2 := gi.ni (i := x.toNat) (by omega)
  have l3 := jm_lt gi (m := x.toNat) (j := (y + 1).toNat) (by omega) (by omega)
  have l4 := pc_le (gi.pw l3)
  have e := at_eq (m := x.toNat) (j := (y + 1).toNat) (p := z.toNat) l1 (by omega) (by omega) S
  have ex : ((x.toNat : Nat) : Int) = x := by omega
  have ey : (((y + 1).toNat : Nat) : Int) - 1 = y := by omega
  have ez : ((z.toNat : Nat) : Int) = z := by omega
  rw [ex, ey, ez] at e
  exact ⟨l1, ex, by omega, by omega, by omega, by unfold jb; split <;> omega, e⟩
def jn (G : Nat → Nat → Int) (m j p : Nat) (v : Int) : Nat → Nat → Int := uq (chg G m) 22 (8320 * m + 128 * jb j + p) v
theorem join_30 {G : Nat → Nat → Int} {S : AS} (h : Fix S) (g : Ag G S) (gi : GI G) {x v y z : Int} (hp : isPn G x y z) : (qn G x.toNat (y + 1).toNat z.toNat = v → MO S (f_X6_join_30 (some 14) x v y z 0 (some 14) S) 0 0 G) ∧ (qn G x.toNat (y + 1).toNat z.toNat ≠ v → MO S (f_X6_join_30 (some 14) x v y z 0 (some 14) S) 0 1 (jn G x.toNat (y + 1).toNat z.toNat v)) := by
  have h1 := h.wI 14 0 0
  have g1 := g.w1 (v := 0) kor_0
  obtain ⟨l1, ex, lx, ly, lz, lj, ea⟩ := pn_at gi hp (wI S 14 0 0)
  have e0 : f_X6_join_30 (some 14) x v y z 0 (some 14) S = (if qn G x.toNat (y + 1).toNat z.toNat = v then rZ 0 (wI S 14 0 0) else cV (f_X6_change (some 14) x (wI S 14 0 0)) fun S8 => (gR S8 (some 14) 7 10).bind fun o11 => (sI S8 o11 8 ((8320 * x.toNat + 128 * jb (y + 1).toNat + z.toNat : Nat) : Int) v).bind fun S12 => rZ 1 S12) := by
    unfold f_X6_join_30
    simp only [gd_t (fk_14 h), refused_n h, cI_s, if_true, ea, fr_14_10 h1, Option.bind_some]
    rw [ma_22 h1 g1 (by omega) (by omega), Option.bind_some, tn]
    simp only [gd_t (fk_14 h1)]
    rfl
  constructor
  · intro hv
    refine MO.th g ?_
    rw [e0, if_pos hv, rZ_0]
  · intro hv
    obtain ⟨S2, e2, f2, t2, g2⟩ := change_eq h1 g1 gi (m := x.toNat) lx
    have h2 := f2.fix h1
    rw [ex] at e2
    rw [e0, if_neg hv, e2, cV_s]
    simp (disch := omega) only [fr_14_10 h2, fs_22 h2, Option.bind_some, chk_ok, gd_1, tn, rZ_1]
    refine ⟨_, rfl, ((MF.w1 S 0 0 (by decide) (by decide)).tr f2).tr (MF.w1 _ _ _ (by decide) (by decide)), ?_, g2.u1⟩
    rw [hI_wI, if_neg (by omega), t2, hI_w0]
theorem m_join {G : Nat → Nat → Int} {S : AS} (h : Fix S) (g : Ag G S) (gi : GI G) (x v y z : Int) : (¬ (isPn G x y z ∧ 0 ≤ v ∧ v < G 20 x.toNat) → MO S (f_X6_join (some 14) x v y z S) 1 0 G) ∧ ((isPn G x y z ∧ 0 ≤ v ∧ v < G 20 x.toNat) → (qn G x.toNat (y + 1).toNat z.toNat = v → MO S (f_X6_join (some 14) x v y z S) 0 0 G) ∧ (qn G x.toNat (y + 1).toNat z.toNat ≠ v → MO S (f_X6_join (some 14) x v y z S) 0 1 (jn G x.toNat (y + 1).toNat z.toNat v))) := by
  have hd := Classical.propDecidable (isPn G x y z)
  have bad : ∀ T, T = S → f_X6_join_25 (some 14) x v y z (some 14) T = some ((0, 0, none), wI S 14 0 1) := by
    intro T hT
    subst hT
    unfold f_X6_join_25 f_X6_join_30
    simp only [gd_t (fk_14 h), refused_i h, cI_s]
    rw [if_neg (by decide), rZ_0]
  constructor
  · intro hn
    refine MO.th g ?_
    unfold f_X6_join
    simp only [gd_t (fk_14 h), isPin_eq h g gi, cI_s]
    by_cases hp : isPn G x y z
    · rw [Bo_t hp, if_neg (by decide)]
      obtain ⟨l1, ex, lx, ly, lz, lj, ea⟩ := pn_at gi hp S
      simp (disch := omega) only [fr_14_2 h, fr_14_3 h, fr_14_4 h, fr_14_5 h, fr_14_6 h, fr_14_7 h, fr_14_8 h, fr_14_10 h, fr_14_11 h, fr_14_12 h, ma_15 h g, ma_16 h g, ma_17 h g, ma_18 h g, ma_19 h g, ma_20 h g, ma_21 h g, ma_22 h g, ma_23 h g, ma_24 h g, mg_1 h g, mg_9 h g, mg_0 h, fp_14 h, fk_14 h, Option.bind_some, chk_ok, gd_1]
      rw [isIn_f (fun q => hn ⟨hp, q⟩), cI_s, if_pos rfl]
      exact bad S rfl
    · rw [Bo_f hp, if_pos rfl]
      exact bad S rfl
  · intro hp
    obtain ⟨l1, ex, lx, ly, lz, lj, ea⟩ := pn_at gi hp.1 S
    have e : f_X6_join (some 14) x v y z S = f_X6_join_30 (some 14) x v y z 0 (some 14) S := by
      unfold f_X6_join
      simp only [gd_t (fk_14 h), isPin_eq h g gi, cI_s, Bo_t hp.1]
      rw [if_neg (by decide)]
      simp (disch := omega) only [fr_14_2 h, fr_14_3 h, fr_14_4 h, fr_14_5 h, fr_14_6 h, fr_14_7 h, fr_14_8 h, fr_14_10 h, fr_14_11 h, fr_14_12 h, ma_15 h g, ma_16 h g, ma_17 h g, ma_18 h g, ma_19 h g, ma_20 h g, ma_21 h g, ma_22 h g, ma_23 h g, ma_24 h g, mg_1 h g, mg_9 h g, mg_0 h, fp_14 h, fk_14 h, Option.bind_some, chk_ok, gd_1]
      rw [isIn_t hp.2, cI_s, if_neg (by decide)]
    rw [e]
    exact join_30 h g gi hp.1
theorem m_part {G : Nat → Nat → Int} {S : AS} (h : Fix S) (g : Ag G S) (gi : GI G) (x y z : Int) : (¬ isPn G x y z → MO S (f_X6_part (some 14) x y z S) 1 0 G) ∧ (isPn G x y z → (qn G x.toNat (y + 1).toNat z.toNat = -1 → MO S (f_X6_part (some 14) x y z S) 0 0 G) ∧ (qn G x.toNat (y + 1).toNat z.toNat ≠ -1 → MO S (f_X6_part (some 14) x y z S) 0 1 (jn G x.toNat (y + 1).toNat z.toNat (-1)))) := by
  have hd := Classical.propDecidable (isPn G x y z)
  constructor
  · intro hp
    refine MO.th g ?_
    unfold f_X6_part
    simp only [gd_t (fk_14 h), isPin_eq h g gi, cI_s]
    rw [Bo_f hp, if_pos rfl]
    unfold f_X6_part_16
    simp only [gd_t (fk_14 h), refused_i h, cI_s]
    rw [if_neg (by decide), rZ_0]
  · intro hp
    have e : f_X6_part (some 14) x y z S = f_X6_join_30 (some 14) x (-1) y z 0 (some 14) S := by
      unfold f_X6_part
      simp only [gd_t (fk_14 h), isPin_eq h g gi, cI_s, Bo_t hp]
      rw [if_neg (by decide)]
      rfl
    rw [e]
    exact join_30 h g gi hp
theorem m_shared {G : Nat → Nat → Int} {S : AS} (h : Fix S) (g : Ag G S) (gi : GI G) (x y : Int) : (¬ ((0 ≤ x ∧ x < G 14 1) ∧ 0 ≤ y ∧ y < G 14 1) → MO S (f_X6_shared (some 14) x y S) 1 0 G) ∧ ((0 ≤ x ∧ x < G 14 1) ∧ 0 ≤ y ∧ y < G 14 1 → MO S (f_X6_shared (some 14) x y S) 0 (Bo (G 21 x.toNat = G 21 y.toNat)) G) := by
  have h0 := h.wI 14 0 0
  have g0 := g.w1 (v := 0) kor_0
  have bad : ∀ T, T = S → f_X6_shared_23 (some 14) x y (some 14) T = some ((0, 0, none), wI S 14 0 1) := by
    intro T hT
    subst hT
    unfold f_X6_shared_23 f_X6_shared_28
    simp only [gd_t (fk_14 h), refused_i h, cI_s]
    first | rw [if_neg (by decide), rZ_0] | rw [if_pos (by decide), rZ_0] | skip
  constructor
  · intro hn
    refine MO.th g ?_
    unfold f_X6_shared
    simp only [mg_1 h g, Option.bind_some, isIn_eq, cI_s]
    by_cases hx : 0 ≤ x ∧ x < G 14 1
    · rw [Bo_t hx, if_neg (by decide), Bo_f (fun q => hn ⟨hx, q⟩), if_pos rfl]
      exact bad S rfl
    · rw [Bo_f hx, if_pos rfl]
      exact bad S rfl
  · intro hp
    refine MO.th g ?_
    have l1 := gi.lt (i := x.toNat) (by omega)
    have l2 := gi.lt (i := y.toNat) (by omega)
    unfold f_X6_shared
    simp only [mg_1 h g, Option.bind_some, isIn_eq, cI_s, Bo_t hp.1, Bo_t hp.2]
    rw [if_neg (by decide), if_neg (by decide)]
    unfold f_X6_shared_28
    simp (disch := omega) only [fk_14 h, fr_14_2 h0, fr_14_3 h0, fr_14_4 h0, fr_14_5 h0, fr_14_6 h0, fr_14_7 h0, fr_14_8 h0, fr_14_10 h0, fr_14_11 h0, fr_14_12 h0, ma_15 h0 g0, ma_16 h0 g0, ma_17 h0 g0, ma_18 h0 g0, ma_19 h0 g0, ma_20 h0 g0, ma_21 h0 g0, ma_22 h0 g0, ma_23 h0 g0, ma_24 h0 g0, mg_1 h0 g0, mg_9 h0 g0, mg_0 h0, fp_14 h0, fk_14 h0, Option.bind_some, chk_ok, gd_1, refused_n h, cI_s, rZ_0, rZ_1]
    by_cases c : G 21 x.toNat = G 21 y.toNat
    · simp [c, Bo]
    · simp [c, Bo]
theorem m_modules {G : Nat → Nat → Int} {S : AS} (h : Fix S) (g : Ag G S) : MO S (f_X6_modules (some 14) S) 0 (G 14 1) G := by
  refine MO.th g ?_
  have h0 := h.wI 14 0 0
  have g0 := g.w1 (v := 0) kor_0
  unfold f_X6_modules
  simp only [fp_14 h, Option.bind_some, mg_1 h0 g0, rI_s]
theorem m_clear {G : Nat → Nat → Int} {S : AS} (h : Fix S) (g : Ag G S) : MO S (f_X6_clear (some 14) S) 0 0 (uq G 14 1 0) := by
  have h0 := h.wI 14 0 0
  have g0 := g.w1 (v := 0) kor_0
  unfold f_X6_clear
  simp only [fp_14 h, fp_14 h0, Option.bind_some, rV_s]
  refine ⟨_, rfl, (MF.w1 S 0 0 (by decide) (by decide)).tr (MF.w1 _ _ _ (by decide) (by decide)), ?_, g0.u1⟩
  rw [hI_wI, if_neg (by omega), hI_w0]
theorem m_moduleOf {G : Nat → Nat → Int} {S : AS} (h : Fix S) (g : Ag G S) (gi : GI G) (x y : Int) : (¬ ((0 ≤ x ∧ x < G 14 1) ∧ 0 ≤ y ∧ y < G 18 x.toNat) → MO S (f_X6_moduleOf (some 14) x y S) 1 0 G) ∧ ((0 ≤ x ∧ x < G 14 1) ∧ 0 ≤ y ∧ y < G 18 x.toNat → MO S (f_X6_moduleOf (some 14) x y S) 0 (fo G x.toNat y.toNat) G) := by
  have h0 := h.wI 14 0 0
  have g0 := g.w1 (v := 0) kor_0
  constructor
  · intro hn
    refine MO.th g ?_
    unfold f_X6_moduleOf
    by_cases hx : 0 ≤ x ∧ x < G 14 1
    · have l1 := gi.lt (i := x.toNat) (by omega)
      simp (disch := omega) only [fr_14_2 h, fr_14_3 h, fr_14_4 h, fr_14_5 h, fr_14_6 h, fr_14_7 h, fr_14_8 h, fr_14_10 h, fr_14_11 h, fr_14_12 h, ma_15 h g, ma_16 h g, ma_17 h g, ma_18 h g, ma_19 h g, ma_20 h g, ma_21 h g, ma_22 h g, ma_23 h g, ma_24 h g, mg_1 h g, mg_9 h g, mg_0 h, fp_14 h, fk_14 h, Option.bind_some, chk_ok, gd_1, isIn_t hx, cI_s]
      rw [if_neg (by decide), isIn_f (fun q => hn ⟨hx, q⟩), cI_s, if_pos rfl]
      unfold f_X6_moduleOf_28 f_X6_moduleOf_29
      first | unfold f_X6_moduleOf_40 | skip
      simp only [if_true, gd_t (fk_14 h), refused_i h, cI_s]
      first | rw [if_neg (by decide), rI_s] | skip
    · simp only [mg_1 h g, Option.bind_some, isIn_f hx, cI_s, if_true]
      unfold f_X6_moduleOf_28 f_X6_moduleOf_29
      first | unfold f_X6_moduleOf_40 | skip
      simp only [if_true, gd_t (fk_14 h), refused_i h, cI_s]
      first | rw [if_neg (by decide), rI_s] | skip
  · intro hp
    refine MO.th g ?_
    have l1 := gi.lt (i := x.toNat) (by omega)
    have l2 := gi.ni (i := x.toNat) (by omega)
    have l3 := gi.fv (i := x.toNat) (k := y.toNat) (by omega) (by omega)
    unfold f_X6_moduleOf
    simp (disch := omega) only [fr_14_2 h, fr_14_3 h, fr_14_4 h, fr_14_5 h, fr_14_6 h, fr_14_7 h, fr_14_8 h, fr_14_10 h, fr_14_11 h, fr_14_12 h, ma_15 h g, ma_16 h g, ma_17 h g, ma_18 h g, ma_19 h g, ma_20 h g, ma_21 h g, ma_22 h g, ma_23 h g, ma_24 h g, mg_1 h g, mg_9 h g, mg_0 h, fp_14 h, fk_14 h, Option.bind_some, chk_ok, gd_1, isIn_t hp.1, cI_s]
    rw [if_neg (by decide), isIn_t hp.2, cI_s, if_neg (by decide)]
    unfold f_X6_moduleOf_29
    rw [if_neg (by decide)]
    first | unfold f_X6_moduleOf_40 | skip
    have e1 : (64 * x + y).toNat = 64 * x.toNat + y.toNat := by omega
    simp (disch := omega) only [fk_14 h, fr_14_2 h0, fr_14_3 h0, fr_14_4 h0, fr_14_5 h0, fr_14_6 h0, fr_14_7 h0, fr_14_8 h0, fr_14_10 h0, fr_14_11 h0, fr_14_12 h0, ma_15 h0 g0, ma_16 h0 g0, ma_17 h0 g0, ma_18 h0 g0, ma_19 h0 g0, ma_20 h0 g0, ma_21 h0 g0, ma_22 h0 g0, ma_23 h0 g0, ma_24 h0 g0, mg_1 h0 g0, mg_9 h0 g0, mg_0 h0, fp_14 h0, fk_14 h0, Option.bind_some, chk_ok, gd_1, refused_n h, cI_s, if_true, e1, l3.1, rI_s]
