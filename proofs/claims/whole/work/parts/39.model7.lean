/-! pin, doubled, open -/
def pinv (G : Nat → Nat → Int) (m : Nat) (w : Int) (j p : Int) : Int := if w = 0 then j - 1 else if w = 1 then p else dv G m j.toNat p.toNat
theorem pin_122 {G : Nat → Nat → Int} {S : AS} (h : Fix S) (g : Ag G S) (gi : GI G) {m j : Nat} (hm : (m : Int) < G 14 1) (hj : (j : Int) ≤ G 18 m) (v w : Int) (hw : 0 ≤ w ∧ w < 3) (k80 : Option Nat → Int → Int → Int → Int → Int → AS → Option RS) : ∀ (d p fu : Nat) (left : Int), -100000 ≤ left - d → left ≤ 2147483647 → np G m j = p + d → d < fu → f_X6_pin_122 fu k80 (some 14) m v w left ((j : Int) - 1) (np G m j : Int) p S = if (fnd (mt G m v false j) d p left).1 = -1 then k80 (some 14) m v w (fnd (mt G m v false j) d p left).2 (j : Int) S else some ((0, pinv G m w j (fnd (mt G m v false j) d p left).1, none), S) := by
  intro d
  have l1 := gi.lt hm
  have l2 := gi.ni hm
  have l3 := np_le gi hm hj
  have lb : jb j ≤ 64 := by unfold jb; split <;> omega
  induction d with
  | zero =>
    intro p fu left hl hl2 hp hf
    obtain ⟨fu, rfl⟩ : ∃ z, fu = z + 1 := ⟨fu - 1, by omega⟩
    unfold f_X6_pin_122 fnd
    rw [if_pos (by omega), chk_ok (by omega) (by omega), Option.bind_some, show (j : Int) - 1 + 1 = j by omega, if_pos rfl]
  | succ d ih =>
    intro p fu left hl hl2 hp hf
    obtain ⟨fu, rfl⟩ : ∃ z, fu = z + 1 := ⟨fu - 1, by omega⟩
    have ea := at_eq (m := m) (j := j) (p := p) l1 (by omega) (by omega) S
    have ed := drives_eq h g gi hm hj (p := p) (by omega)
    conv => lhs; unfold f_X6_pin_122
    rw [if_neg (by omega)]
    simp (disch := omega) only [fr_14_10 h, Option.bind_some, chk_ok, gd_1, ea, cI_s, ma_22 h g, tn, fk_14 h, ed]
    rw [show G 22 (8320 * m + 128 * jb j + p) = qn G m j p from rfl]
    unfold fnd
    by_cases c1 : qn G m j p = v
    · have : mt G m v false j p = true := by simp [mt, c1]
      rw [if_pos c1, if_pos this]
      by_cases c2 : left = 0
      · have np1 : ¬ (((p : Int), (0 : Int)).1 = -1) := by show ¬ ((p : Int) = -1); omega
        rw [if_pos c2, if_pos c2, if_neg np1]
        unfold pinv
        rw [tn, tn]
        by_cases w0 : w = 0
        · rw [if_pos w0, if_pos w0, rI_s]
        · rw [if_neg w0, if_neg w0]
          by_cases w1 : w = 1
          · rw [if_pos w1, if_pos w1, rI_s]
          · rw [if_neg w1, if_neg w1]
            rcases dv_01 gi hm hj p with e | e
            · rw [e, if_pos rfl, rI_s]
            · rw [e, if_neg (by decide), rI_s]
      · rw [if_neg c2, if_neg c2]
        exact ih (p + 1) fu (left - 1) (by omega) (by omega) (by omega) (by omega)
    · have : ¬ mt G m v false j p = true := by simp [mt, c1]
      rw [if_neg c1, if_neg this]
      exact ih (p + 1) fu left (by omega) (by omega) (by omega) (by omega)
theorem pin_80 {G : Nat → Nat → Int} {S : AS} (h : Fix S) (g : Ag G S) (gi : GI G) {m : Nat} (hm : (m : Int) < G 14 1) (v w : Int) (hw : 0 ≤ w ∧ w < 3) : ∀ (d j fu : Nat) (left : Int), 0 ≤ left → left ≤ 2147483647 → (G 18 m).toNat + 1 = j + d → d < fu → (fnd2 (mt G m v false) (np G m) d j left).1 ≠ -1 → f_X6_pin_80 fu (some 14) m v w left ((j : Int) - 1) S = some ((0, pinv G m w (fnd2 (mt G m v false) (np G m) d j left).1 (fnd2 (mt G m v false) (np G m) d j left).2, none), S) := by
  intro d
  have l1 := gi.lt hm
  have l2 := gi.ni hm
  induction d with
  | zero =>
    intro j fu left hl hl2 hj hf hx
    exact absurd rfl hx
  | succ d ih =>
    intro j fu left hl hl2 hj hf hx
    obtain ⟨fu, rfl⟩ : ∃ z, fu = z + 1 := ⟨fu - 1, by omega⟩
    have hjn : (j : Int) ≤ G 18 m := by omega
    have l3 := np_le gi hm hjn
    have l4 := jm_lt gi hm hjn
    have e122 := pin_122 h g gi hm hjn v w hw (f_X6_pin_80 fu) (np G m j) 0 FU left (by omega) hl2 (by omega) (FU_gt (by omega))
    have e114 : f_X6_pin_114 (f_X6_pin_80 fu) (some 14) m v w left ((j : Int) - 1) (jm G m j) (some 14) S = some ((0, pinv G m w (fnd2 (mt G m v false) (np G m) (d + 1) j left).1 (fnd2 (mt G m v false) (np G m) (d + 1) j left).2, none), S) := by
      unfold f_X6_pin_114
      simp only [gd_t (fk_14 h), ownPins_eq h g (gi.lt l4) (gi.pw l4), cI_s, ← l3.2]
      refine e122.trans ?_
      unfold fnd2 at hx ⊢
      by_cases c : (fnd (mt G m v false j) (np G m j) 0 left).1 = -1
      · rw [if_pos c] at hx ⊢
        rw [if_pos c]
        obtain ⟨q1, q2⟩ := fnd_pos (f := mt G m v false j) (np G m j) 0 hl
        have c0 : cnt (mt G m v false j) 0 = 0 := rfl
        have : (fnd (mt G m v false j) (np G m j) 0 left).2 = left - cnt (mt G m v false j) (np G m j) ∧ (cnt (mt G m v false j) (np G m j) : Int) ≤ left := by
          rw [Nat.zero_add, c0] at q1 q2
          by_cases z : (cnt (mt G m v false j) (np G m j) : Int) ≤ left
          · have := (q1 (by omega)).2
            exact ⟨by omega, z⟩
          · have := (q2 (by omega)).1
            omega
        have st := ih (j + 1) fu (fnd (mt G m v false j) (np G m j) 0 left).2 (by omega) (by omega) (by omega) (by omega) hx
        rw [show ((j + 1 : Nat) : Int) - 1 = j by omega] at st
        exact st
      · rw [if_neg c, if_neg c]
    conv => lhs; unfold f_X6_pin_80
    by_cases hj0 : j = 0
    · subst hj0
      simp (disch := omega) only [fr_14_2 h, fr_14_3 h, fr_14_4 h, fr_14_5 h, fr_14_6 h, fr_14_7 h, fr_14_8 h, fr_14_10 h, fr_14_11 h, fr_14_12 h, ma_15 h g, ma_16 h g, ma_17 h g, ma_18 h g, ma_19 h g, ma_20 h g, ma_21 h g, ma_22 h g, ma_23 h g, ma_24 h g, mg_1 h g, mg_9 h g, mg_0 h, fp_14 h, fk_14 h, Option.bind_some, chk_ok, gd_1, tn]
      rw [if_neg (by omega), if_pos (by omega)]
      exact e114
    · have ef := gi.fv (k := j - 1) hm (by omega)
      have ej : jm G m j = fo G m (j - 1) := if_neg hj0
      have e1 : (64 * (m : Int) + ((j : Int) - 1)).toNat = 64 * m + (j - 1) := by omega
      rw [ej] at e114
      simp (disch := omega) only [fr_14_2 h, fr_14_3 h, fr_14_4 h, fr_14_5 h, fr_14_6 h, fr_14_7 h, fr_14_8 h, fr_14_10 h, fr_14_11 h, fr_14_12 h, ma_15 h g, ma_16 h g, ma_17 h g, ma_18 h g, ma_19 h g, ma_20 h g, ma_21 h g, ma_22 h g, ma_23 h g, ma_24 h g, mg_1 h g, mg_9 h g, mg_0 h, fp_14 h, fk_14 h, Option.bind_some, chk_ok, gd_1, tn, e1, ef.1]
      rw [if_neg (by omega), if_neg (by omega)]
      exact e114
def pf (G : Nat → Nat → Int) (m : Nat) (v k : Int) : Int × Int := fnd2 (mt G m v false) (np G m) ((G 18 m).toNat + 1) 0 k
theorem pf_none {G : Nat → Nat → Int} {m : Nat} {v k : Int} : (pf G m v k).1 = -1 ↔ ¬ (0 ≤ k ∧ k < tt G m v false) := by
  have e := fnd2_spec (mt G m v false) (np G m) ((G 18 m).toNat + 1) 0 k
  have s0 : sj (fun j => cnt (mt G m v false j) (np G m j)) 0 = 0 := rfl
  rw [Nat.zero_add, s0] at e
  have e2 : sj (fun j => cnt (mt G m v false j) (np G m j)) ((G 18 m).toNat + 1) = tt G m v false := rfl
  rw [e2] at e
  constructor
  · intro q r
    have := (e.2 (by omega)).1
    unfold pf at q
    omega
  · intro q
    exact e.1 (by omega)
theorem m_pin {G : Nat → Nat → Int} {S : AS} (h : Fix S) (g : Ag G S) (gi : GI G) (x y k w : Int) (hk : k ≤ 2147483647) : (¬ ((0 ≤ x ∧ x < G 14 1) ∧ (0 ≤ y ∧ y < G 20 x.toNat) ∧ (0 ≤ w ∧ w < 3) ∧ (pf G x.toNat y k).1 ≠ -1) → MO S (f_X6_pin (some 14) x y k w S) 1 0 G) ∧ (((0 ≤ x ∧ x < G 14 1) ∧ (0 ≤ y ∧ y < G 20 x.toNat) ∧ (0 ≤ w ∧ w < 3) ∧ (pf G x.toNat y k).1 ≠ -1) → MO S (f_X6_pin (some 14) x y k w S) 0 (pinv G x.toNat w (pf G x.toNat y k).1 (pf G x.toNat y k).2) G) := by
  have h0 := h.wI 14 0 0
  have g0 := g.w1 (v := 0) kor_0
  have l0 := gi.1
  have bad : f_X6_pin_51 (some 14) x y k w S = some ((0, 0, none), wI S 14 0 1) := by
    unfold f_X6_pin_51 f_X6_pin_52
    simp only [if_true]
    unfold f_X6_pin_65
    simp only [gd_t (fk_14 h), refused_i h, cI_s]
    rw [if_neg (by decide), rI_s]
  have cp : (0 ≤ x ∧ x < G 14 1) → f_X6_countPins (some 14) x y 0 S = some ((0, (tt G x.toNat y false : Int), none), S) := by
    intro hx
    have e := countPins_eq h g gi (m := x.toNat) (by omega) y false
    rw [show ((x.toNat : Nat) : Int) = x by omega, show b2 false = 0 from rfl] at e
    exact e
  constructor
  · intro hn
    refine MO.th g ?_
    unfold f_X6_pin
    by_cases hx : 0 ≤ x ∧ x < G 14 1
    · simp (disch := omega) only [fr_14_2 h, fr_14_3 h, fr_14_4 h, fr_14_5 h, fr_14_6 h, fr_14_7 h, fr_14_8 h, fr_14_10 h, fr_14_11 h, fr_14_12 h, ma_15 h g, ma_16 h g, ma_17 h g, ma_18 h g, ma_19 h g, ma_20 h g, ma_21 h g, ma_22 h g, ma_23 h g, ma_24 h g, mg_1 h g, mg_9 h g, mg_0 h, fp_14 h, fk_14 h, Option.bind_some, chk_ok, gd_1, isIn_t hx, cI_s]
      rw [if_neg (by decide)]
      by_cases hy : 0 ≤ y ∧ y < G 20 x.toNat
      · rw [isIn_t hy, cI_s, if_neg (by decide)]
        by_cases hw : 0 ≤ w ∧ w < 3
        · rw [isIn_t hw, cI_s, if_neg (by decide), gd_t (fk_14 h), cp hx, cI_s, isIn_f (fun q => hn ⟨hx, hy, hw, fun r => pf_none.mp r q⟩), cI_s, if_pos rfl]
          exact bad
        · rw [isIn_f hw, cI_s, if_pos rfl]
          exact bad
      · rw [isIn_f hy, cI_s, if_pos rfl]
        exact bad
    · simp only [mg_1 h g, Option.bind_some, isIn_f hx, cI_s, if_true]
      exact bad
  · rintro ⟨hx, hy, hw, hp⟩
    refine MO.th g ?_
    have hk2 : 0 ≤ k ∧ k < tt G x.toNat y false := Decidable.byContradiction (fun q => hp (pf_none.mpr q))
    have ln := gi.ni (i := x.toNat) (by omega)
    have e := pin_80 h0 g0 gi (m := x.toNat) (by omega) y w hw ((G 18 x.toNat).toNat + 1) 0 FU k hk2.1 hk (by omega) (FU_gt (by omega)) hp
    rw [show ((x.toNat : Nat) : Int) = x by omega] at e
    unfold f_X6_pin
    simp (disch := omega) only [fr_14_2 h, fr_14_3 h, fr_14_4 h, fr_14_5 h, fr_14_6 h, fr_14_7 h, fr_14_8 h, fr_14_10 h, fr_14_11 h, fr_14_12 h, ma_15 h g, ma_16 h g, ma_17 h g, ma_18 h g, ma_19 h g, ma_20 h g, ma_21 h g, ma_22 h g, ma_23 h g, ma_24 h g, mg_1 h g, mg_9 h g, mg_0 h, fp_14 h, fk_14 h, Option.bind_some, chk_ok, gd_1, isIn_t hx, cI_s]
    rw [if_neg (by decide), isIn_t hy, cI_s, if_neg (by decide), isIn_t hw, cI_s, if_neg (by decide), cp hx, cI_s, isIn_t hk2, cI_s, if_neg (by decide)]
    unfold f_X6_pin_52
    rw [if_neg (by decide)]
    unfold f_X6_pin_65
    simp only [gd_t (fk_14 h), refused_n h, cI_s, if_true]
    exact e
def dbl (G : Nat → Nat → Int) (m n : Nat) : Bool := decide (1 < tt G m n true)
def opn (G : Nat → Nat → Int) (m n : Nat) : Bool := decide (0 < tt G m n false) && decide (tt G m n true = 0)
theorem doubled_35 {G : Nat → Nat → Int} {S : AS} (h : Fix S) (g : Ag G S) (gi : GI G) {m : Nat} (hm : (m : Int) < G 14 1) : ∀ (d n fu : Nat) (left : Int), -100000 ≤ left - d → left ≤ 2147483647 → (G 20 m).toNat = n + d → d < fu → f_X6_doubled_35 fu (some 14) m left n S = some ((0, (fnd (dbl G m) d n left).1, none), S) := by
  intro d
  have l1 := gi.lt hm
  have l2 := gi.nn hm
  induction d with
  | zero =>
    intro n fu left hl hl2 hn hf
    obtain ⟨fu, rfl⟩ : ∃ z, fu = z + 1 := ⟨fu - 1, by omega⟩
    unfold f_X6_doubled_35 fnd
    simp (disch := omega) only [fr_14_2 h, fr_14_3 h, fr_14_4 h, fr_14_5 h, fr_14_6 h, fr_14_7 h, fr_14_8 h, fr_14_10 h, fr_14_11 h, fr_14_12 h, ma_15 h g, ma_16 h g, ma_17 h g, ma_18 h g, ma_19 h g, ma_20 h g, ma_21 h g, ma_22 h g, ma_23 h g, ma_24 h g, mg_1 h g, mg_9 h g, mg_0 h, fp_14 h, fk_14 h, Option.bind_some, chk_ok, gd_1, tn]
    rw [if_pos (by omega), rI_s]
  | succ d ih =>
    intro n fu left hl hl2 hn hf
    obtain ⟨fu, rfl⟩ : ∃ z, fu = z + 1 := ⟨fu - 1, by omega⟩
    have e1 := countPins_eq h g gi hm n true
    rw [show b2 true = 1 from rfl] at e1
    conv => lhs; unfold f_X6_doubled_35
    simp (disch := omega) only [fr_14_2 h, fr_14_3 h, fr_14_4 h, fr_14_5 h, fr_14_6 h, fr_14_7 h, fr_14_8 h, fr_14_10 h, fr_14_11 h, fr_14_12 h, ma_15 h g, ma_16 h g, ma_17 h g, ma_18 h g, ma_19 h g, ma_20 h g, ma_21 h g, ma_22 h g, ma_23 h g, ma_24 h g, mg_1 h g, mg_9 h g, mg_0 h, fp_14 h, fk_14 h, Option.bind_some, chk_ok, gd_1, tn, e1, cI_s]
    rw [if_neg (by omega)]
    unfold fnd
    by_cases c : 1 < tt G m n true
    · rw [if_neg (by omega), if_pos (show dbl G m n = true by simp [dbl, c])]
      by_cases c2 : left = 0
      · rw [if_pos c2, if_pos c2, rI_s]
      · rw [if_neg c2, if_neg c2]
        exact ih (n + 1) fu (left - 1) (by omega) (by omega) (by omega) (by omega)
    · rw [if_pos (by omega), if_neg (show ¬ dbl G m n = true by simp [dbl]; omega)]
      exact ih (n + 1) fu left (by omega) (by omega) (by omega) (by omega)
theorem open_35 {G : Nat → Nat → Int} {S : AS} (h : Fix S) (g : Ag G S) (gi : GI G) {m : Nat} (hm : (m : Int) < G 14 1) : ∀ (d n fu : Nat) (left : Int), -100000 ≤ left - d → left ≤ 2147483647 → (G 20 m).toNat = n + d → d < fu → f_X6_open_35 fu (some 14) m left n S = some ((0, (fnd (opn G m) d n left).1, none), S) := by
  intro d
  have l1 := gi.lt hm
  have l2 := gi.nn hm
  induction d with
  | zero =>
    intro n fu left hl hl2 hn hf
    obtain ⟨fu, rfl⟩ : ∃ z, fu = z + 1 := ⟨fu - 1, by omega⟩
    unfold f_X6_open_35 fnd
    simp (disch := omega) only [fr_14_2 h, fr_14_3 h, fr_14_4 h, fr_14_5 h, fr_14_6 h, fr_14_7 h, fr_14_8 h, fr_14_10 h, fr_14_11 h, fr_14_12 h, ma_15 h g, ma_16 h g, ma_17 h g, ma_18 h g, ma_19 h g, ma_20 h g, ma_21 h g, ma_22 h g, ma_23 h g, ma_24 h g, mg_1 h g, mg_9 h g, mg_0 h, fp_14 h, fk_14 h, Option.bind_some, chk_ok, gd_1, tn]
    rw [if_pos (by omega), rI_s]
  | succ d ih =>
    intro n fu left hl hl2 hn hf
    obtain ⟨fu, rfl⟩ : ∃ z, fu = z + 1 := ⟨fu - 1, by omega⟩
    have e1 := countPins_eq h g gi hm n true
    rw [show b2 true = 1 from rfl] at e1
    have e0 := countPins_eq h g gi hm n false
    rw [show b2 false = 0 from rfl] at e0
    conv => lhs; unfold f_X6_open_35
    simp (disch := omega) only [fr_14_2 h, fr_14_3 h, fr_14_4 h, fr_14_5 h, fr_14_6 h, fr_14_7 h, fr_14_8 h, fr_14_10 h, fr_14_11 h, fr_14_12 h, ma_15 h g, ma_16 h g, ma_17 h g, ma_18 h g, ma_19 h g, ma_20 h g, ma_21 h g, ma_22 h g, ma_23 h g, ma_24 h g, mg_1 h g, mg_9 h g, mg_0 h, fp_14 h, fk_14 h, Option.bind_some, chk_ok, gd_1, tn, e1, e0, cI_s]
    rw [if_neg (by omega)]
    unfold fnd
    by_cases c : 0 < tt G m n false
    · rw [if_neg (by omega)]
      by_cases c1 : tt G m n true = 0
      · rw [if_pos (by omega), if_pos (show opn G m n = true by simp [opn, c, c1])]
        by_cases c2 : left = 0
        · rw [if_pos c2, if_pos c2, rI_s]
        · rw [if_neg c2, if_neg c2]
          exact ih (n + 1) fu (left - 1) (by omega) (by omega) (by omega) (by omega)
      · rw [if_neg (by omega), if_neg (show ¬ opn G m n = true by simp [opn, c1])]
        exact ih (n + 1) fu left (by omega) (by omega) (by omega) (by omega)
    · rw [if_pos (by omega), if_neg (show ¬ opn G m n = true by simp [opn]; omega)]
      exact ih (n + 1) fu left (by omega) (by omega) (by omega) (by omega)
theorem m_doubled {G : Nat → Nat → Int} {S : AS} (h : Fix S) (g : Ag G S) (gi : GI G) (x k : Int) (hk : k ≤ 2147483647) : (¬ ((0 ≤ x ∧ x < G 14 1) ∧ 0 ≤ k) → MO S (f_X6_doubled (some 14) x k S) 1 0 G) ∧ ((0 ≤ x ∧ x < G 14 1) ∧ 0 ≤ k → MO S (f_X6_doubled (some 14) x k S) 0 (fnd (dbl G x.toNat) (G 20 x.toNat).toNat 0 k).1 G) := by
  have h0 := h.wI 14 0 0
  have g0 := g.w1 (v := 0) kor_0
  have l0 := gi.1
  have bad : f_X6_doubled_16 (some 14) x k (some 14) S = some ((0, 0, none), wI S 14 0 1) := by
    unfold f_X6_doubled_16 f_X6_doubled_21
    simp only [gd_t (fk_14 h), refused_i h, cI_s]
    rw [if_neg (by decide), rI_s]
  constructor
  · intro hn
    refine MO.th g ?_
    unfold f_X6_doubled
    by_cases hx : 0 ≤ x ∧ x < G 14 1
    · simp only [mg_1 h g, Option.bind_some, isIn_t hx, cI_s]
      rw [if_neg (by decide), if_neg (fun q => hn ⟨hx, q⟩)]
      exact bad
    · simp only [mg_1 h g, Option.bind_some, isIn_f hx, cI_s, if_true]
      exact bad
  · intro hp
    refine MO.th g ?_
    have ln := gi.nn (i := x.toNat) (by omega)
    have e := doubled_35 h0 g0 gi (m := x.toNat) (by omega) (G 20 x.toNat).toNat 0 FU k (by omega) hk (by omega) (FU_gt (by omega))
    rw [show ((x.toNat : Nat) : Int) = x by omega] at e
    unfold f_X6_doubled
    simp only [mg_1 h g, Option.bind_some, isIn_t hp.1, cI_s]
    rw [if_neg (by decide), if_pos hp.2]
    unfold f_X6_doubled_21
    simp only [gd_t (fk_14 h), refused_n h, cI_s, if_true]
    exact e
theorem m_open {G : Nat → Nat → Int} {S : AS} (h : Fix S) (g : Ag G S) (gi : GI G) (x k : Int) (hk : k ≤ 2147483647) : (¬ ((0 ≤ x ∧ x < G 14 1) ∧ 0 ≤ k) → MO S (f_X6_open (some 14) x k S) 1 0 G) ∧ ((0 ≤ x ∧ x < G 14 1) ∧ 0 ≤ k → MO S (f_X6_open (some 14) x k S) 0 (fnd (opn G x.toNat) (G 20 x.toNat).toNat 0 k).1 G) := by
  have h0 := h.wI 14 0 0
  have g0 := g.w1 (v := 0) kor_0
  have l0 := gi.1
  have bad : f_X6_open_16 (some 14) x k (some 14) S = some ((0, 0, none), wI S 14 0 1) := by
    unfold f_X6_open_16 f_X6_open_21
    simp only [gd_t (fk_14 h), refused_i h, cI_s]
    rw [if_neg (by decide), rI_s]
  constructor
  · intro hn
    refine MO.th g ?_
    unfold f_X6_open
    by_cases hx : 0 ≤ x ∧ x < G 14 1
    · simp only [mg_1 h g, Option.bind_some, isIn_t hx, cI_s]
      rw [if_neg (by decide), if_neg (fun q => hn ⟨hx, q⟩)]
      exact bad
    · simp only [mg_1 h g, Option.bind_some, isIn_f hx, cI_s, if_true]
      exact bad
  · intro hp
    refine MO.th g ?_
    have ln := gi.nn (i := x.toNat) (by omega)
    have e := open_35 h0 g0 gi (m := x.toNat) (by omega) (G 20 x.toNat).toNat 0 FU k (by omega) hk (by omega) (FU_gt (by omega))
    rw [show ((x.toNat : Nat) : Int) = x by omega] at e
    unfold f_X6_open
    simp only [mg_1 h g, Option.bind_some, isIn_t hp.1, cI_s]
    rw [if_neg (by decide), if_pos hp.2]
    unfold f_X6_open_21
    simp only [gd_t (fk_14 h), refused_n h, cI_s, if_true]
    exact e
