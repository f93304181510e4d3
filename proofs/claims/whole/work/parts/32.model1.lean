/-! the model's small methods -/
theorem FU_gt {n : Nat} (h : n < 1000000) : n < FU := h
theorem isIn_eq (x n : Int) (S : AS) : f_X6_isIn x n S = some ((0, Bo (0 ≤ x ∧ x < n), none), S) := by
  unfold f_X6_isIn
  split
  · rw [Bo_f (by omega)]; rfl
  · split
    · rw [Bo_f (by omega)]; rfl
    · rw [Bo_t (by omega)]; rfl
theorem Bo_0 {p : Prop} [Decidable p] : Bo p = 0 ↔ ¬ p := by unfold Bo; split <;> simp_all
theorem Bo_1 {p : Prop} [Decidable p] : Bo p = 1 ↔ p := by unfold Bo; split <;> simp_all
/-- how many pins the first k ports of a module have -/
def pcs (G : Nat → Nat → Int) (m : Nat) : Nat → Int
  | 0 => 0
  | k + 1 => pcs G m k + G 16 (16 * m + k)
def pc (G : Nat → Nat → Int) (m : Nat) : Int := pcs G m (G 15 m).toNat
def PW (G : Nat → Nat → Int) (m : Nat) : Prop := 0 ≤ G 15 m ∧ G 15 m ≤ 16 ∧ ∀ k : Nat, (k : Int) < G 15 m → 1 ≤ G 16 (16 * m + k) ∧ G 16 (16 * m + k) ≤ 8 ∧ (G 17 (16 * m + k) = 0 ∨ G 17 (16 * m + k) = 1)
theorem pcs_le {G : Nat → Nat → Int} {m : Nat} (h : PW G m) : ∀ k : Nat, (k : Int) ≤ G 15 m → (k : Int) ≤ pcs G m k ∧ pcs G m k ≤ 8 * k := by
  intro k
  induction k with
  | zero => intro _; simp [pcs]
  | succ k ih =>
    intro hk
    have := ih (by omega)
    have := h.2.2 k (by omega)
    simp only [pcs]
    omega
theorem pc_le {G : Nat → Nat → Int} {m : Nat} (h : PW G m) : 0 ≤ pc G m ∧ pc G m ≤ 128 := by
  have := pcs_le h (G 15 m).toNat (by have := h.1; omega)
  have := h.1; have := h.2.1
  unfold pc; omega
theorem tn (n : Nat) : (n : Int).toNat = n := by omega
theorem ownPins_4 {S : AS} (h : Fix S) {m : Nat} (hm : m < 24) (w : PW (hI S) m) : ∀ (d k : Nat) (fu : Nat), (hI S 15 m).toNat = k + d → d < fu → f_X6_ownPins_4 fu (some 14) m (pcs (hI S) m k) k S = some ((0, pc (hI S) m, none), S) := by
  intro d
  have w0 := w.1
  have w1 := w.2.1
  induction d with
  | zero =>
    intro k fu hk hf
    obtain ⟨fu, rfl⟩ : ∃ z, fu = z + 1 := ⟨fu - 1, by omega⟩
    unfold f_X6_ownPins_4
    simp (disch := omega) only [fr_14_2 h, fr_14_3 h, fr_14_4 h, fr_14_5 h, fr_14_6 h, fr_14_7 h, fr_14_8 h, fr_14_10 h, fr_14_11 h, fr_14_12 h, fr_14_14 h, fr_14_15 h, fr_14_16 h, fr_14_17 h, fr_14_19 h, fr_14_20 h, fr_14_21 h, fr_14_22 h, fr_14_23 h, fr_14_24 h, fr_14_25 h, fr_14_26 h, fr_14_27 h, fa_15 h, fa_16 h, fa_17 h, fa_18 h, fa_19 h, fa_20 h, fa_21 h, fa_22 h, fa_23 h, fa_24 h, fa_25 h, fa_26 h, fa_27 h, fa_28 h, fa_29 h, fa_30 h, fa_31 h, fa_32 h, fa_33 h, fa_34 h, fa_35 h, fa_36 h, fa_37 h, fs_15 h, fs_16 h, fs_17 h, fs_18 h, fs_19 h, fs_20 h, fs_21 h, fs_22 h, fs_23 h, fs_24 h, fs_25 h, fs_26 h, fs_27 h, fs_28 h, fs_29 h, fs_30 h, fs_31 h, fs_32 h, fs_33 h, fs_34 h, fs_35 h, fs_36 h, fs_37 h, fg_14 h, fp_14 h, fk_14 h, Option.bind_some, chk_ok, gd_t, tn]
    rw [if_pos (by omega)]
    unfold pc rI
    rw [hk]
    rfl
  | succ d ih =>
    intro k fu hk hf
    obtain ⟨fu, rfl⟩ : ∃ z, fu = z + 1 := ⟨fu - 1, by omega⟩
    unfold f_X6_ownPins_4
    have p1 := pcs_le w k (by omega)
    have p2 := w.2.2 k (by omega)
    have e1 : (16 * (m : Int) + (k : Int)).toNat = 16 * m + k := by omega
    simp (disch := omega) only [fr_14_2 h, fr_14_3 h, fr_14_4 h, fr_14_5 h, fr_14_6 h, fr_14_7 h, fr_14_8 h, fr_14_10 h, fr_14_11 h, fr_14_12 h, fr_14_14 h, fr_14_15 h, fr_14_16 h, fr_14_17 h, fr_14_19 h, fr_14_20 h, fr_14_21 h, fr_14_22 h, fr_14_23 h, fr_14_24 h, fr_14_25 h, fr_14_26 h, fr_14_27 h, fa_15 h, fa_16 h, fa_17 h, fa_18 h, fa_19 h, fa_20 h, fa_21 h, fa_22 h, fa_23 h, fa_24 h, fa_25 h, fa_26 h, fa_27 h, fa_28 h, fa_29 h, fa_30 h, fa_31 h, fa_32 h, fa_33 h, fa_34 h, fa_35 h, fa_36 h, fa_37 h, fs_15 h, fs_16 h, fs_17 h, fs_18 h, fs_19 h, fs_20 h, fs_21 h, fs_22 h, fs_23 h, fs_24 h, fs_25 h, fs_26 h, fs_27 h, fs_28 h, fs_29 h, fs_30 h, fs_31 h, fs_32 h, fs_33 h, fs_34 h, fs_35 h, fs_36 h, fs_37 h, fg_14 h, fp_14 h, fk_14 h, Option.bind_some, chk_ok, gd_t, tn, e1]
    rw [if_neg (by omega)]
    exact ih (k + 1) fu (by omega) (by omega)
theorem ownPins_eq {S : AS} (h : Fix S) {m : Nat} (hm : m < 24) (w : PW (hI S) m) : f_X6_ownPins (some 14) m S = some ((0, pc (hI S) m, none), S) := by
  have := w.2.1
  exact ownPins_4 h hm w (hI S 15 m).toNat 0 FU (by omega) (FU_gt (by omega))
