/-! counting pins and searching them -/
def mt (G : Nat → Nat → Int) (m : Nat) (v : Int) (drv : Bool) (j p : Nat) : Bool := decide (qn G m j p = v) && (!drv || decide (dv G m j p = 1))
def sj (c : Nat → Nat) : Nat → Nat
  | 0 => 0
  | j + 1 => sj c j + c j
def np (G : Nat → Nat → Int) (m j : Nat) : Nat := (pc G (jm G m j)).toNat
def tot (G : Nat → Nat → Int) (m : Nat) (v : Int) (drv : Bool) (J : Nat) : Nat := sj (fun j => cnt (mt G m v drv j) (np G m j)) J
def fnd (f : Nat → Bool) : Nat → Nat → Int → Int × Int
  | 0, _, left => (-1, left)
  | d + 1, p, left => if f p = true then (if left = 0 then ((p : Int), 0) else fnd f d (p + 1) (left - 1)) else fnd f d (p + 1) left
def fnd2 (f : Nat → Nat → Bool) (N : Nat → Nat) : Nat → Nat → Int → Int × Int
  | 0, _, _ => (-1, 0)
  | d + 1, j, left => if (fnd (f j) (N j) 0 left).1 = -1 then fnd2 f N d (j + 1) (fnd (f j) (N j) 0 left).2 else ((j : Int), (fnd (f j) (N j) 0 left).1)
theorem cnt_le (f : Nat → Bool) : ∀ n, cnt f n ≤ n := by
  intro n
  induction n with
  | zero => exact Nat.le_refl _
  | succ n ih =>
    show cnt f n + (if f n = true then 1 else 0) ≤ n + 1
    split <;> omega
theorem sj_le {c : Nat → Nat} {b : Nat} (J : Nat) (h : ∀ j, j < J → c j ≤ b) : sj c J ≤ b * J := by
  induction J with
  | zero => exact Nat.le_refl _
  | succ J ih =>
    have := ih (fun j hj => h j (by omega))
    have := h J (by omega)
    show sj c J + c J ≤ b * (J + 1)
    rw [Nat.mul_succ]
    omega
theorem cnt_s (f : Nat → Bool) (n : Nat) : cnt f (n + 1) = cnt f n + (if f n = true then 1 else 0) := rfl
theorem fnd_neg {f : Nat → Bool} : ∀ (d p : Nat) {left : Int}, left < 0 → (fnd f d p left).1 = -1 ∧ (fnd f d p left).2 = left - (cnt f (p + d) - cnt f p : Int) := by
  intro d
  induction d with
  | zero => intro p left h; exact ⟨rfl, by simp [fnd]⟩
  | succ d ih =>
    intro p left h
    have e := cnt_s f p
    have ea : p + (d + 1) = p + 1 + d := by omega
    unfold fnd
    rw [ea]
    by_cases c : f p = true
    · rw [if_pos c, if_neg (by omega)]
      rw [if_pos c] at e
      obtain ⟨i1, i2⟩ := ih (p + 1) (left := left - 1) (by omega)
      exact ⟨i1, by rw [i2]; omega⟩
    · rw [if_neg c]
      rw [if_neg c] at e
      obtain ⟨i1, i2⟩ := ih (p + 1) h
      exact ⟨i1, by rw [i2]; omega⟩
theorem cnt_mono (f : Nat → Bool) (p d : Nat) : cnt f p ≤ cnt f (p + d) := by
  induction d with
  | zero => exact Nat.le_refl _
  | succ d ih => exact Nat.le_trans ih (Nat.le_add_right _ _)
theorem fnd_pos {f : Nat → Bool} : ∀ (d p : Nat) {left : Int}, 0 ≤ left → ((cnt f (p + d) - cnt f p : Int) ≤ left → (fnd f d p left).1 = -1 ∧ (fnd f d p left).2 = left - (cnt f (p + d) - cnt f p : Int)) ∧ (left < (cnt f (p + d) - cnt f p : Int) → (p : Int) ≤ (fnd f d p left).1 ∧ (fnd f d p left).1 < ((p + d : Nat) : Int) ∧ f (fnd f d p left).1.toNat = true) := by
  intro d
  induction d with
  | zero => intro p left h; exact ⟨fun _ => ⟨rfl, by simp [fnd]⟩, fun q => by simp at q; omega⟩
  | succ d ih =>
    intro p left h
    have e := cnt_s f p
    have ea : p + (d + 1) = p + 1 + d := by omega
    have mo := cnt_mono f (p + 1) d
    unfold fnd
    rw [ea]
    by_cases c : f p = true
    · rw [if_pos c]
      rw [if_pos c] at e
      by_cases c0 : left = 0
      · rw [if_pos c0]
        refine ⟨fun q => by omega, fun q => ⟨Int.le_refl _, by simp only; omega, ?_⟩⟩
        simpa using c
      · rw [if_neg c0]
        obtain ⟨i1, i2⟩ := ih (p + 1) (left := left - 1) (by omega)
        refine ⟨fun q => ?_, fun q => ?_⟩
        · obtain ⟨a, b⟩ := i1 (by omega)
          exact ⟨a, by rw [b]; omega⟩
        · obtain ⟨a, b⟩ := i2 (by omega)
          exact ⟨by omega, b⟩
    · rw [if_neg c]
      rw [if_neg c] at e
      obtain ⟨i1, i2⟩ := ih (p + 1) h
      refine ⟨fun q => ?_, fun q => ?_⟩
      · obtain ⟨a, b⟩ := i1 (by omega)
        exact ⟨a, by rw [b]; omega⟩
      · obtain ⟨a, b⟩ := i2 (by omega)
        exact ⟨by omega, b⟩
theorem sj_mono (c : Nat → Nat) (p d : Nat) : sj c p ≤ sj c (p + d) := by
  induction d with
  | zero => exact Nat.le_refl _
  | succ d ih => exact Nat.le_trans ih (Nat.le_add_right _ _)
/-- the k-th of the places, counted over all rows -/
theorem fnd2_spec (f : Nat → Nat → Bool) (N : Nat → Nat) : ∀ (d j : Nat) (left : Int), (left < 0 ∨ (sj (fun j => cnt (f j) (N j)) (j + d) - sj (fun j => cnt (f j) (N j)) j : Int) ≤ left → (fnd2 f N d j left).1 = -1) ∧ (0 ≤ left ∧ left < (sj (fun j => cnt (f j) (N j)) (j + d) - sj (fun j => cnt (f j) (N j)) j : Int) → (j : Int) ≤ (fnd2 f N d j left).1 ∧ (fnd2 f N d j left).1 < ((j + d : Nat) : Int) ∧ 0 ≤ (fnd2 f N d j left).2 ∧ (fnd2 f N d j left).2 < (N (fnd2 f N d j left).1.toNat : Int) ∧ f (fnd2 f N d j left).1.toNat (fnd2 f N d j left).2.toNat = true) := by
  intro d
  induction d with
  | zero => intro j left; exact ⟨fun _ => rfl, fun q => by simp at q; omega⟩
  | succ d ih =>
    intro j left
    have ea : j + (d + 1) = j + 1 + d := by omega
    have es : sj (fun j => cnt (f j) (N j)) (j + 1) = sj (fun j => cnt (f j) (N j)) j + cnt (f j) (N j) := rfl
    have c0 : cnt (f j) 0 = 0 := rfl
    obtain ⟨p1, p2⟩ := ih (j + 1) (fnd (f j) (N j) 0 left).2
    unfold fnd2
    rw [ea]
    by_cases hl : left < 0
    · obtain ⟨q1, q2⟩ := fnd_neg (f := f j) (N j) 0 hl
      rw [if_pos q1]
      rw [Nat.zero_add, c0] at q2
      exact ⟨fun _ => p1 (Or.inl (by omega)), fun q => by omega⟩
    · obtain ⟨q1, q2⟩ := fnd_pos (f := f j) (N j) 0 (left := left) (by omega)
      rw [Nat.zero_add, c0] at q1 q2
      by_cases hc : (cnt (f j) (N j) : Int) ≤ left
      · obtain ⟨q3, q4⟩ := q1 (by omega)
        rw [if_pos q3]
        refine ⟨fun q => p1 (Or.inr (by omega)), fun q => ?_⟩
        obtain ⟨r1, r2⟩ := p2 (by omega)
        exact ⟨by omega, r2⟩
      · obtain ⟨q3, q4, q5⟩ := q2 (by omega)
        rw [if_neg (by omega)]
        refine ⟨fun q => ?_, fun q => ⟨Int.le_refl _, by simp only; omega, by simp only; omega, by simp only [tn]; omega, by simp only [tn]; exact q5⟩⟩
        have mo := sj_mono (fun j => cnt (f j) (N j)) (j + 1) d
        omega
/-! the model's loops over pins -/
theorem dv_01 {G : Nat → Nat → Int} (gi : GI G) {m j : Nat} (hm : (m : Int) < G 14 1) (hj : (j : Int) ≤ G 18 m) (p : Nat) : dv G m j p = 0 ∨ dv G m j p = 1 := by
  unfold dv
  split
  · rcases ob_01 (gi.pw hm) (q := p) with e | e <;> rw [e] <;> decide
  · exact ob_01 (gi.pw (jm_lt gi hm hj))
theorem np_le {G : Nat → Nat → Int} (gi : GI G) {m j : Nat} (hm : (m : Int) < G 14 1) (hj : (j : Int) ≤ G 18 m) : np G m j ≤ 128 ∧ (np G m j : Int) = pc G (jm G m j) := by
  have := pc_le (gi.pw (jm_lt gi hm hj))
  unfold np
  omega
theorem drives_eq {G : Nat → Nat → Int} {S : AS} (h : Fix S) (g : Ag G S) (gi : GI G) {m j p : Nat} (hm : (m : Int) < G 14 1) (hj : (j : Int) ≤ G 18 m) (hp : p < np G m j) : f_X6_drives (some 14) m ((j : Int) - 1) p S = some ((0, dv G m j p, none), S) := by
  have l1 := gi.lt hm
  have l2 := gi.ni hm
  have l3 := np_le gi hm hj
  have l4 := jm_lt gi hm hj
  unfold f_X6_drives dv
  by_cases hj0 : j = 0
  · subst hj0
    rw [if_pos (by omega), if_pos rfl]
    have e := isOut_eq h g l1 (gi.pw hm) (q := p) (by omega) (by rw [show jm G m 0 = m from rfl] at l3; omega)
    rw [gd_t (fk_14 h), e, cI_s]
    rcases ob_01 (gi.pw hm) (q := p) with e | e
    · rw [e, if_pos rfl, rZ_1]; rfl
    · rw [e, if_neg (by decide), rZ_0]; rfl
  · rw [if_neg (by omega), if_neg hj0]
    have ef := gi.fv (k := j - 1) hm (by omega)
    have ej : jm G m j = fo G m (j - 1) := if_neg hj0
    have e1 : (64 * (m : Int) + ((j : Int) - 1)).toNat = 64 * m + (j - 1) := by omega
    rw [ej] at l3 l4 ⊢
    have e := isOut_eq h g (gi.lt l4) (gi.pw l4) (q := p) (by omega) (by omega)
    simp (disch := omega) only [fr_14_2 h, fr_14_3 h, fr_14_4 h, fr_14_5 h, fr_14_6 h, fr_14_7 h, fr_14_8 h, fr_14_10 h, fr_14_11 h, fr_14_12 h, ma_15 h g, ma_16 h g, ma_17 h g, ma_18 h g, ma_19 h g, ma_20 h g, ma_21 h g, ma_22 h g, ma_23 h g, ma_24 h g, mg_1 h g, mg_9 h g, mg_0 h, fp_14 h, fk_14 h, Option.bind_some, chk_ok, gd_1, e1, ef.1, e, cI_s]
    exact rZ_ok (ob_01 (gi.pw l4))
theorem countPins_48 {G : Nat → Nat → Int} {S : AS} (h : Fix S) (g : Ag G S) (gi : GI G) {m j : Nat} (hm : (m : Int) < G 14 1) (hj : (j : Int) ≤ G 18 m) (v : Int) (drv : Bool) (k6 : Option Nat → Int → Int → Int → Int → Int → AS → Option RS) {c0 : Nat} (hc : c0 ≤ 100000) : ∀ (d p fu : Nat), np G m j = p + d → d < fu → f_X6_countPins_48 fu k6 (some 14) m v (b2 drv) ((c0 + cnt (mt G m v drv j) p : Nat) : Int) ((j : Int) - 1) (np G m j : Int) p S = k6 (some 14) m v (b2 drv) ((c0 + cnt (mt G m v drv j) (np G m j) : Nat) : Int) (j : Int) S := by
  intro d
  have l1 := gi.lt hm
  have l2 := gi.ni hm
  have l3 := np_le gi hm hj
  have lb : jb j ≤ 64 := by unfold jb; split <;> omega
  induction d with
  | zero =>
    intro p fu hp hf
    obtain ⟨fu, rfl⟩ : ∃ z, fu = z + 1 := ⟨fu - 1, by omega⟩
    unfold f_X6_countPins_48
    rw [if_pos (by omega), chk_ok (by omega) (by omega), Option.bind_some, show (j : Int) - 1 + 1 = j by omega, show p = np G m j by omega]
  | succ d ih =>
    intro p fu hp hf
    obtain ⟨fu, rfl⟩ : ∃ z, fu = z + 1 := ⟨fu - 1, by omega⟩
    have step := ih (p + 1) fu (by omega) (by omega)
    rw [show ((p + 1 : Nat) : Int) = (p : Int) + 1 by omega] at step
    have cl := cnt_le (mt G m v drv j) p
    have ea := at_eq (m := m) (j := j) (p := p) l1 (by omega) (by omega) S
    have cs := cnt_s (mt G m v drv j) p
    have ed := drives_eq h g gi hm hj (p := p) (by omega)
    conv => lhs; unfold f_X6_countPins_48
    rw [if_neg (by omega)]
    simp (disch := omega) only [fr_14_10 h, Option.bind_some, chk_ok, gd_1, ea, cI_s, ma_22 h g, tn, fk_14 h, ed]
    rw [show G 22 (8320 * m + 128 * jb j + p) = qn G m j p from rfl]
    by_cases c1 : qn G m j p = v
    · rw [if_pos c1]
      cases drv with
      | false =>
        have : mt G m v false j p = true := by simp [mt, c1]
        rw [if_pos this] at cs
        rw [if_pos (show b2 false = 0 from rfl)]
        rw [cs] at step
        exact step
      | true =>
        rw [if_neg (by decide)]
        by_cases c2 : dv G m j p = 1
        · have : mt G m v true j p = true := by simp [mt, c1, c2]
          rw [if_pos this] at cs
          rw [if_neg (by rw [c2]; decide)]
          rw [cs] at step
          exact step
        · have : ¬ mt G m v true j p = true := by simp [mt, c2]
          rw [if_neg this] at cs
          rw [if_pos ((dv_01 gi hm hj p).resolve_right c2)]
          rw [cs] at step
          exact step
    · have : ¬ mt G m v drv j p = true := by simp [mt, c1]
      rw [if_neg this] at cs
      rw [if_neg c1]
      rw [cs] at step
      exact step
theorem countPins_6 {G : Nat → Nat → Int} {S : AS} (h : Fix S) (g : Ag G S) (gi : GI G) {m : Nat} (hm : (m : Int) < G 14 1) (v : Int) (drv : Bool) : ∀ (d j fu : Nat), (G 18 m).toNat + 1 = j + d → d < fu → f_X6_countPins_6 fu (some 14) m v (b2 drv) (tot G m v drv j : Int) ((j : Int) - 1) S = some ((0, (tot G m v drv ((G 18 m).toNat + 1) : Int), none), S) := by
  intro d
  have l1 := gi.lt hm
  have l2 := gi.ni hm
  induction d with
  | zero =>
    intro j fu hj hf
    obtain ⟨fu, rfl⟩ : ∃ z, fu = z + 1 := ⟨fu - 1, by omega⟩
    unfold f_X6_countPins_6
    simp (disch := omega) only [fr_14_2 h, fr_14_3 h, fr_14_4 h, fr_14_5 h, fr_14_6 h, fr_14_7 h, fr_14_8 h, fr_14_10 h, fr_14_11 h, fr_14_12 h, ma_15 h g, ma_16 h g, ma_17 h g, ma_18 h g, ma_19 h g, ma_20 h g, ma_21 h g, ma_22 h g, ma_23 h g, ma_24 h g, mg_1 h g, mg_9 h g, mg_0 h, fp_14 h, fk_14 h, Option.bind_some, chk_ok, gd_1, tn]
    rw [if_pos (by omega), rI_s, show j = (G 18 m).toNat + 1 by omega]
  | succ d ih =>
    intro j fu hj hf
    obtain ⟨fu, rfl⟩ : ∃ z, fu = z + 1 := ⟨fu - 1, by omega⟩
    have hjn : (j : Int) ≤ G 18 m := by omega
    have step := ih (j + 1) fu (by omega) (by omega)
    have lt : tot G m v drv j ≤ 128 * j := sj_le j (fun i hi => Nat.le_trans (cnt_le _ _) (np_le gi hm (by omega)).1)
    have l3 := np_le gi hm hjn
    have l4 := jm_lt gi hm hjn
    have e48 := countPins_48 h g gi hm hjn v drv (f_X6_countPins_6 fu) (c0 := tot G m v drv j) (by omega) (np G m j) 0 FU (by omega) (FU_gt (by omega))
    have e40 : f_X6_countPins_40 (f_X6_countPins_6 fu) (some 14) m v (b2 drv) (tot G m v drv j : Int) ((j : Int) - 1) (jm G m j) (some 14) S = some ((0, (tot G m v drv ((G 18 m).toNat + 1) : Int), none), S) := by
      unfold f_X6_countPins_40
      simp only [gd_t (fk_14 h), ownPins_eq h g (gi.lt l4) (gi.pw l4), cI_s, ← l3.2]
      rw [show ((j + 1 : Nat) : Int) - 1 = j by omega] at step
      exact e48.trans step
    conv => lhs; unfold f_X6_countPins_6
    by_cases hj0 : j = 0
    · subst hj0
      simp (disch := omega) only [fr_14_2 h, fr_14_3 h, fr_14_4 h, fr_14_5 h, fr_14_6 h, fr_14_7 h, fr_14_8 h, fr_14_10 h, fr_14_11 h, fr_14_12 h, ma_15 h g, ma_16 h g, ma_17 h g, ma_18 h g, ma_19 h g, ma_20 h g, ma_21 h g, ma_22 h g, ma_23 h g, ma_24 h g, mg_1 h g, mg_9 h g, mg_0 h, fp_14 h, fk_14 h, Option.bind_some, chk_ok, gd_1, tn]
      rw [if_neg (by omega), if_pos (by omega)]
      exact e40
    · have ef := gi.fv (k := j - 1) hm (by omega)
      have ej : jm G m j = fo G m (j - 1) := if_neg hj0
      have e1 : (64 * (m : Int) + ((j : Int) - 1)).toNat = 64 * m + (j - 1) := by omega
      rw [ej] at e40
      simp (disch := omega) only [fr_14_2 h, fr_14_3 h, fr_14_4 h, fr_14_5 h, fr_14_6 h, fr_14_7 h, fr_14_8 h, fr_14_10 h, fr_14_11 h, fr_14_12 h, ma_15 h g, ma_16 h g, ma_17 h g, ma_18 h g, ma_19 h g, ma_20 h g, ma_21 h g, ma_22 h g, ma_23 h g, ma_24 h g, mg_1 h g, mg_9 h g, mg_0 h, fp_14 h, fk_14 h, Option.bind_some, chk_ok, gd_1, tn, e1, ef.1]
      rw [if_neg (by omega), if_neg (by omega)]
      exact e40
def tt (G : Nat → Nat → Int) (m : Nat) (v : Int) (drv : Bool) : Nat := tot G m v drv ((G 18 m).toNat + 1)
theorem tt_le {G : Nat → Nat → Int} (gi : GI G) {m : Nat} (hm : (m : Int) < G 14 1) (v : Int) (drv : Bool) : tt G m v drv ≤ 8320 := by
  have l2 := gi.ni hm
  have : tt G m v drv ≤ 128 * ((G 18 m).toNat + 1) := sj_le _ (fun i hi => Nat.le_trans (cnt_le _ _) (np_le gi hm (by omega)).1)
  omega
theorem countPins_eq {G : Nat → Nat → Int} {S : AS} (h : Fix S) (g : Ag G S) (gi : GI G) {m : Nat} (hm : (m : Int) < G 14 1) (v : Int) (drv : Bool) : f_X6_countPins (some 14) m v (b2 drv) S = some ((0, (tt G m v drv : Int), none), S) := by
  have l2 := gi.ni hm
  exact countPins_6 h g gi hm v drv ((G 18 m).toNat + 1) 0 FU (by omega) (FU_gt (by omega))
theorem m_pins {G : Nat → Nat → Int} {S : AS} (h : Fix S) (g : Ag G S) (gi : GI G) (x y : Int) : (¬ ((0 ≤ x ∧ x < G 14 1) ∧ 0 ≤ y ∧ y < G 20 x.toNat) → MO S (f_X6_pins (some 14) x y S) 1 0 G) ∧ ((0 ≤ x ∧ x < G 14 1) ∧ 0 ≤ y ∧ y < G 20 x.toNat → MO S (f_X6_pins (some 14) x y S) 0 (tt G x.toNat y false) G) := by
  have h0 := h.wI 14 0 0
  have g0 := g.w1 (v := 0) kor_0
  have l0 := gi.1
  have bad : f_X6_pins_28 (some 14) x y S = some ((0, 0, none), wI S 14 0 1) := by
    unfold f_X6_pins_28 f_X6_pins_29
    simp only [if_true]
    unfold f_X6_pins_40
    simp only [gd_t (fk_14 h), refused_i h, cI_s]
    rw [if_neg (by decide), rI_s]
  constructor
  · intro hn
    refine MO.th g ?_
    unfold f_X6_pins
    by_cases hx : 0 ≤ x ∧ x < G 14 1
    · simp (disch := omega) only [fr_14_2 h, fr_14_3 h, fr_14_4 h, fr_14_5 h, fr_14_6 h, fr_14_7 h, fr_14_8 h, fr_14_10 h, fr_14_11 h, fr_14_12 h, ma_15 h g, ma_16 h g, ma_17 h g, ma_18 h g, ma_19 h g, ma_20 h g, ma_21 h g, ma_22 h g, ma_23 h g, ma_24 h g, mg_1 h g, mg_9 h g, mg_0 h, fp_14 h, fk_14 h, Option.bind_some, chk_ok, gd_1, isIn_t hx, cI_s]
      rw [if_neg (by decide), isIn_f (fun q => hn ⟨hx, q⟩), cI_s, if_pos rfl]
      exact bad
    · simp only [mg_1 h g, Option.bind_some, isIn_f hx, cI_s, if_true]
      exact bad
  · intro hp
    refine MO.th g ?_
    have e := countPins_eq h0 g0 gi (m := x.toNat) (by omega) y false
    rw [show ((x.toNat : Nat) : Int) = x by omega, show b2 false = 0 from rfl] at e
    unfold f_X6_pins
    simp (disch := omega) only [fr_14_2 h, fr_14_3 h, fr_14_4 h, fr_14_5 h, fr_14_6 h, fr_14_7 h, fr_14_8 h, fr_14_10 h, fr_14_11 h, fr_14_12 h, ma_15 h g, ma_16 h g, ma_17 h g, ma_18 h g, ma_19 h g, ma_20 h g, ma_21 h g, ma_22 h g, ma_23 h g, ma_24 h g, mg_1 h g, mg_9 h g, mg_0 h, fp_14 h, fk_14 h, Option.bind_some, chk_ok, gd_1, isIn_t hp.1, cI_s, isIn_t hp.2]
    rw [if_neg (by decide), if_neg (by decide)]
    unfold f_X6_pins_29
    rw [if_neg (by decide)]
    unfold f_X6_pins_40
    simp only [gd_t (fk_14 h), refused_n h, cI_s, if_true, gd_t (fk_14 h0), e, rI_s]
