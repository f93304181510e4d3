/-! reading the model: its arrays are G's -/
theorem ma_15 {G : Nat → Nat → Int} {S : AS} (h : Fix S) (g : Ag G S) {i : Int} (h0 : 0 ≤ i) (h1 : i < 24) : aI S (some 15) 8 i = some (G 15 i.toNat) := (fa_15 h h0 h1).trans (congrArg some (g 15 _ (Or.inl (by decide))))
theorem ma_16 {G : Nat → Nat → Int} {S : AS} (h : Fix S) (g : Ag G S) {i : Int} (h0 : 0 ≤ i) (h1 : i < 384) : aI S (some 16) 8 i = some (G 16 i.toNat) := (fa_16 h h0 h1).trans (congrArg some (g 16 _ (Or.inl (by decide))))
theorem ma_17 {G : Nat → Nat → Int} {S : AS} (h : Fix S) (g : Ag G S) {i : Int} (h0 : 0 ≤ i) (h1 : i < 384) : aI S (some 17) 9 i = some (G 17 i.toNat) := (fa_17 h h0 h1).trans (congrArg some (g 17 _ (Or.inl (by decide))))
theorem ma_18 {G : Nat → Nat → Int} {S : AS} (h : Fix S) (g : Ag G S) {i : Int} (h0 : 0 ≤ i) (h1 : i < 24) : aI S (some 18) 8 i = some (G 18 i.toNat) := (fa_18 h h0 h1).trans (congrArg some (g 18 _ (Or.inl (by decide))))
theorem ma_19 {G : Nat → Nat → Int} {S : AS} (h : Fix S) (g : Ag G S) {i : Int} (h0 : 0 ≤ i) (h1 : i < 1536) : aI S (some 19) 8 i = some (G 19 i.toNat) := (fa_19 h h0 h1).trans (congrArg some (g 19 _ (Or.inl (by decide))))
theorem ma_20 {G : Nat → Nat → Int} {S : AS} (h : Fix S) (g : Ag G S) {i : Int} (h0 : 0 ≤ i) (h1 : i < 24) : aI S (some 20) 8 i = some (G 20 i.toNat) := (fa_20 h h0 h1).trans (congrArg some (g 20 _ (Or.inl (by decide))))
theorem ma_21 {G : Nat → Nat → Int} {S : AS} (h : Fix S) (g : Ag G S) {i : Int} (h0 : 0 ≤ i) (h1 : i < 24) : aI S (some 21) 8 i = some (G 21 i.toNat) := (fa_21 h h0 h1).trans (congrArg some (g 21 _ (Or.inl (by decide))))
theorem ma_22 {G : Nat → Nat → Int} {S : AS} (h : Fix S) (g : Ag G S) {i : Int} (h0 : 0 ≤ i) (h1 : i < 199680) : aI S (some 22) 8 i = some (G 22 i.toNat) := (fa_22 h h0 h1).trans (congrArg some (g 22 _ (Or.inl (by decide))))
theorem ma_23 {G : Nat → Nat → Int} {S : AS} (h : Fix S) (g : Ag G S) {i : Int} (h0 : 0 ≤ i) (h1 : i < 1536) : aI S (some 23) 8 i = some (G 23 i.toNat) := (fa_23 h h0 h1).trans (congrArg some (g 23 _ (Or.inl (by decide))))
theorem ma_24 {G : Nat → Nat → Int} {S : AS} (h : Fix S) (g : Ag G S) {i : Int} (h0 : 0 ≤ i) (h1 : i < 36864) : aI S (some 24) 8 i = some (G 24 i.toNat) := (fa_24 h h0 h1).trans (congrArg some (g 24 _ (Or.inl (by decide))))
theorem mg_1 {G : Nat → Nat → Int} {S : AS} (h : Fix S) (g : Ag G S) : gI S (some 14) 7 1 = some (G 14 1) := (fg_14 h 1).trans (congrArg some (g 14 1 (Or.inr (by decide))))
theorem mg_9 {G : Nat → Nat → Int} {S : AS} (h : Fix S) (g : Ag G S) : gI S (some 14) 7 9 = some (G 14 9) := (fg_14 h 9).trans (congrArg some (g 14 9 (Or.inr (by decide))))
theorem mg_0 {S : AS} (h : Fix S) : gI S (some 14) 7 0 = some (hI S 14 0) := fg_14 h 0
/-! the model's small methods -/
theorem isIn_eq (x n : Int) (S : AS) : f_X6_isIn x n S = some ((0, Bo (0 ≤ x ∧ x < n), none), S) := by
  unfold f_X6_isIn
  split
  · rw [Bo_f (by omega)]; rfl
  · split
    · rw [Bo_f (by omega)]; rfl
    · rw [Bo_t (by omega)]; rfl
theorem isIn_t {x n : Int} {S : AS} (h : 0 ≤ x ∧ x < n) : f_X6_isIn x n S = some ((0, 1, none), S) := by rw [isIn_eq, Bo_t h]
theorem isIn_f {x n : Int} {S : AS} (h : ¬ (0 ≤ x ∧ x < n)) : f_X6_isIn x n S = some ((0, 0, none), S) := by rw [isIn_eq, Bo_f h]
theorem gd_1 (x : Option RS) : gd true x = x := rfl
theorem cI_s {k : Int → AS → Option RS} {v : Int} {r : Option Nat} {S : AS} : cI (some ((0, v, r), S)) k = k v S := by simp [cI]
theorem cR_s {k : Option Nat → AS → Option RS} {v : Int} {r : Option Nat} {S : AS} : cR (some ((0, v, r), S)) k = k r S := by simp [cR]
theorem cV_s {k : AS → Option RS} {v : Int} {r : Option Nat} {S : AS} : cV (some ((0, v, r), S)) k = k S := by simp [cV]
theorem cM_s {k : Int → AS → Option RS} {v : Int} {r : Option Nat} {S : AS} : cM (some ((0, v, r), S)) k = k v S := by simp [cM]
theorem cN_s {k : AS → Option RS} {v : Int} {r : Option Nat} {S : AS} : cN (some ((0, v, r), S)) k = k S := by simp [cN]
theorem rI_s (x : Int) (S : AS) : rI x S = some ((0, x, none), S) := rfl
theorem rV_s (S : AS) : rV S = some ((0, 0, none), S) := rfl
theorem rR_s (r : Option Nat) (S : AS) : rR r S = some ((0, 0, r), S) := rfl
theorem rZ_0 (S : AS) : rZ 0 S = some ((0, 0, none), S) := rfl
theorem rZ_1 (S : AS) : rZ 1 S = some ((0, 1, none), S) := rfl
theorem hI_w0 (S : AS) (a k : Nat) (v : Int) : hI (wI S a k v) a k = v := if_pos ⟨rfl, rfl⟩
theorem thrown_eq {S : AS} (h : Fix S) : f_X6_thrown (some 14) S = some ((0, hI S 14 0, none), S) := by
  unfold f_X6_thrown
  simp only [mg_0 h, Option.bind_some, rI_s]
theorem refused_18 {S : AS} (h : Fix S) {t : Int} : f_X6_refused_18 (some 14) t (some 14) S = some ((0, Bo (0 < t), none), wI S 14 0 t) := by
  unfold f_X6_refused_18
  have h1 := h.wI 14 0 t
  simp only [fp_14 h, Option.bind_some, mg_0 h1, hI_w0, rZ_0, rZ_1]
  split
  · rw [Bo_f (by omega)]
  · rw [Bo_t (by omega)]
theorem refused_i {S : AS} (h : Fix S) (x : Int) : f_X6_refused (some 14) 1 x S = some ((0, 1, none), wI S 14 0 1) := by
  unfold f_X6_refused
  rw [if_neg (by decide), refused_18 h]; rfl
theorem refused_s {S : AS} (h : Fix S) : f_X6_refused (some 14) 0 1 S = some ((0, 1, none), wI S 14 0 2) := by
  unfold f_X6_refused
  rw [if_pos rfl, if_neg (by decide), refused_18 h]; rfl
theorem refused_n {S : AS} (h : Fix S) : f_X6_refused (some 14) 0 0 S = some ((0, 0, none), wI S 14 0 0) := by
  unfold f_X6_refused
  rw [if_pos rfl, if_pos rfl, refused_18 h]; rfl
theorem kor_0 : ¬ kor 14 0 := by unfold kor; omega
/-! pins -/
theorem ownPins_4 {G : Nat → Nat → Int} {S : AS} (h : Fix S) (g : Ag G S) {m : Nat} (hm : m < 24) (w : PW G m) : ∀ (d k : Nat) (fu : Nat), (G 15 m).toNat = k + d → d < fu → f_X6_ownPins_4 fu (some 14) m (pcs G m k) k S = some ((0, pc G m, none), S) := by
  intro d
  have w0 := w.1
  have w1 := w.2.1
  induction d with
  | zero =>
    intro k fu hk hf
    obtain ⟨fu, rfl⟩ : ∃ z, fu = z + 1 := ⟨fu - 1, by omega⟩
    unfold f_X6_ownPins_4
    simp (disch := omega) only [fr_14_2 h, fr_14_3 h, fr_14_4 h, fr_14_5 h, fr_14_6 h, fr_14_7 h, fr_14_8 h, fr_14_10 h, fr_14_11 h, fr_14_12 h, ma_15 h g, ma_16 h g, ma_17 h g, ma_18 h g, ma_19 h g, ma_20 h g, ma_21 h g, ma_22 h g, ma_23 h g, ma_24 h g, mg_1 h g, mg_9 h g, mg_0 h, fp_14 h, fk_14 h, Option.bind_some, chk_ok, gd_1, tn]
    rw [if_pos (by omega)]
    unfold pc rI
    rw [hk]
    rfl
  | succ d ih =>
    intro k fu hk hf
    obtain ⟨fu, rfl⟩ : ∃ z, fu = z + 1 := ⟨fu - 1, by omega⟩
    unfold f_X6_ownPins_4
    have p1 := pcs_le w k (by omega)
    have p2 := w.2.2 k (by omega)
    have e1 : (16 * (m : Int) + (k : Int)).toNat = 16 * m + k := by omega
    simp (disch := omega) only [fr_14_2 h, fr_14_3 h, fr_14_4 h, fr_14_5 h, fr_14_6 h, fr_14_7 h, fr_14_8 h, fr_14_10 h, fr_14_11 h, fr_14_12 h, ma_15 h g, ma_16 h g, ma_17 h g, ma_18 h g, ma_19 h g, ma_20 h g, ma_21 h g, ma_22 h g, ma_23 h g, ma_24 h g, mg_1 h g, mg_9 h g, mg_0 h, fp_14 h, fk_14 h, Option.bind_some, chk_ok, gd_1, tn, e1]
    rw [if_neg (by omega)]
    exact ih (k + 1) fu (by omega) (by omega)
theorem ownPins_eq {G : Nat → Nat → Int} {S : AS} (h : Fix S) (g : Ag G S) {m : Nat} (hm : m < 24) (w : PW G m) : f_X6_ownPins (some 14) m S = some ((0, pc G m, none), S) := by
  have := w.2.1
  exact ownPins_4 h g hm w (G 15 m).toNat 0 FU (by omega) (FU_gt (by omega))
theorem obk_at {G : Nat → Nat → Int} {m : Nat} (w : PW G m) {q : Int} {k : Nat} (h1 : pcs G m k ≤ q) (h2 : q < pcs G m (k + 1)) : ∀ d : Nat, ((k + 1 + d : Nat) : Int) ≤ G 15 m → obk G m q (k + 1 + d) = G 17 (16 * m + k) := by
  intro d
  induction d with
  | zero =>
    intro hd
    show (if q < pcs G m k then obk G m q k else G 17 (16 * m + k)) = _
    rw [if_neg (by omega)]
  | succ d ih =>
    intro hd
    show (if q < pcs G m (k + 1 + d) then obk G m q (k + 1 + d) else G 17 (16 * m + (k + 1 + d))) = _
    have : pcs G m (k + 1) ≤ pcs G m (k + 1 + d) := by
      clear ih
      induction d with
      | zero => exact Int.le_refl _
      | succ e ie =>
        have := ie (by omega)
        have p := w.2.2 (k + 1 + e) (by omega)
        have : pcs G m (k + 1 + (e + 1)) = pcs G m (k + 1 + e) + G 16 (16 * m + (k + 1 + e)) := rfl
        omega
    rw [if_pos (by omega)]
    exact ih (by omega)
theorem ob_at {G : Nat → Nat → Int} {m : Nat} (w : PW G m) {q : Int} {k : Nat} (hk : (k : Int) < G 15 m) (h1 : pcs G m k ≤ q) (h2 : q < pcs G m (k + 1)) : ob G m q = G 17 (16 * m + k) := by
  have := obk_at w h1 h2 ((G 15 m).toNat - (k + 1)) (by omega)
  unfold ob
  rw [← this]
  congr 1
  omega
theorem isOut_5 {G : Nat → Nat → Int} {S : AS} (h : Fix S) (g : Ag G S) {m : Nat} (hm : m < 24) (w : PW G m) {q : Int} (hq : q < pc G m) : ∀ (d k : Nat) (fu : Nat), (G 15 m).toNat = k + d → pcs G m k ≤ q → d < fu → f_X6_isOut_5 fu (some 14) m (q - pcs G m k) k S = some ((0, ob G m q, none), S) := by
  intro d
  have w0 := w.1
  have w1 := w.2.1
  induction d with
  | zero =>
    intro k fu hk hp hf
    unfold pc at hq
    rw [hk] at hq
    exact absurd hq (by simp only [Nat.add_zero]; omega)
  | succ d ih =>
    intro k fu hk hp hf
    obtain ⟨fu, rfl⟩ : ∃ z, fu = z + 1 := ⟨fu - 1, by omega⟩
    unfold f_X6_isOut_5
    have p1 := pcs_le w k (by omega)
    have p2 := w.2.2 k (by omega)
    have p3 := pc_le w
    have e1 : (16 * (m : Int) + (k : Int)).toNat = 16 * m + k := by omega
    simp (disch := omega) only [fr_14_2 h, fr_14_3 h, fr_14_4 h, fr_14_5 h, fr_14_6 h, fr_14_7 h, fr_14_8 h, fr_14_10 h, fr_14_11 h, fr_14_12 h, ma_15 h g, ma_16 h g, ma_17 h g, ma_18 h g, ma_19 h g, ma_20 h g, ma_21 h g, ma_22 h g, ma_23 h g, ma_24 h g, mg_1 h g, mg_9 h g, mg_0 h, fp_14 h, fk_14 h, Option.bind_some, chk_ok, gd_1, tn, e1]
    by_cases c : q < pcs G m (k + 1)
    · rw [if_pos (by have : pcs G m (k + 1) = pcs G m k + G 16 (16 * m + k) := rfl; omega), ob_at w (by omega) hp c, rZ_ok p2.2.2]
    · have e2 : pcs G m (k + 1) = pcs G m k + G 16 (16 * m + k) := rfl
      rw [if_neg (by omega)]
      have := ih (k + 1) fu (by omega) (by omega) (by omega)
      rw [e2] at this
      rw [← this]
      congr 1
      omega
theorem isOut_eq {G : Nat → Nat → Int} {S : AS} (h : Fix S) (g : Ag G S) {m : Nat} (hm : m < 24) (w : PW G m) {q : Int} (h0 : 0 ≤ q) (hq : q < pc G m) : f_X6_isOut (some 14) m q S = some ((0, ob G m q, none), S) := by
  have := w.2.1
  have := isOut_5 h g hm w hq (G 15 m).toNat 0 FU (by omega) h0 (FU_gt (by omega))
  unfold f_X6_isOut
  rw [← this]
  congr 1
  show q = q - 0
  omega
theorem ob_01 {G : Nat → Nat → Int} {m : Nat} (w : PW G m) {q : Int} : ob G m q = 0 ∨ ob G m q = 1 := by
  unfold ob
  have h0 := w.1
  have : ∀ k : Nat, (k : Int) ≤ G 15 m → obk G m q k = 0 ∨ obk G m q k = 1 := by
    intro k
    induction k with
    | zero => intro _; exact Or.inl rfl
    | succ k ih =>
      intro hk
      show (if q < pcs G m k then obk G m q k else G 17 (16 * m + k)) = 0 ∨ (if q < pcs G m k then obk G m q k else G 17 (16 * m + k)) = 1
      split
      · exact ih (by omega)
      · exact (w.2.2 k (by omega)).2.2
  exact this _ (by omega)
/-- places: 0 the own pins, j + 1 those of instance j -/
def jm (G : Nat → Nat → Int) (m j : Nat) : Nat := if j = 0 then m else fo G m (j - 1)
def jb (j : Nat) : Nat := if j = 0 then 64 else j - 1
def qn (G : Nat → Nat → Int) (m j p : Nat) : Int := G 22 (8320 * m + 128 * jb j + p)
def dv (G : Nat → Nat → Int) (m j p : Nat) : Int := if j = 0 then 1 - ob G m p else ob G (jm G m j) p
theorem at_eq {m j p : Nat} (hm : m < 24) (hj : j ≤ 64) (hp : p < 128) (S : AS) : f_X6_at m ((j : Int) - 1) p S = some ((0, ((8320 * m + 128 * jb j + p : Nat) : Int), none), S) := by
  unfold f_X6_at jb
  simp (disch := omega) only [Option.bind_some, chk_ok, gd_1, rI_s]
  by_cases hj0 : j = 0
  · subst hj0
    rw [if_pos (by omega), if_pos rfl]
    have : 8320 * (m : Int) + 128 * 64 + (p : Int) = ((8320 * m + 128 * 64 + p : Nat) : Int) := by omega
    rw [this]
  · rw [if_neg (by omega), if_neg hj0]
    have : 8320 * (m : Int) + 128 * ((j : Int) - 1) + (p : Int) = ((8320 * m + 128 * (j - 1) + p : Nat) : Int) := by omega
    rw [this]
theorem at_own {m p : Nat} (hm : m < 24) (hp : p < 128) (S : AS) : f_X6_at m (-1) p S = some ((0, ((8320 * m + 8192 + p : Nat) : Int), none), S) := by
  have := at_eq (j := 0) hm (by omega) hp S
  simpa [jb] using this
theorem jm_lt {G : Nat → Nat → Int} (gi : GI G) {m j : Nat} (hm : (m : Int) < G 14 1) (hj : (j : Int) ≤ G 18 m) : (jm G m j : Int) < G 14 1 := by
  unfold jm
  split
  · exact hm
  · exact (gi.fv hm (by omega)).2
theorem isPin_51 {G : Nat → Nat → Int} {S : AS} (h : Fix S) (g : Ag G S) (gi : GI G) {m : Nat} (hm : (m : Int) < G 14 1) (x : Int) : f_X6_isPin_51 (some 14) x m S = some ((0, Bo (0 ≤ x ∧ x < pc G m), none), S) := by
  unfold f_X6_isPin_51
  simp only [gd_t (fk_14 h), ownPins_eq h g (gi.lt hm) (gi.pw hm), cI_s, isIn_eq, rZ_ok (Bo_01 _)]
theorem isPin_31 {G : Nat → Nat → Int} {S : AS} (h : Fix S) (g : Ag G S) (gi : GI G) {m j : Nat} (hm : (m : Int) < G 14 1) (hj : (j : Int) ≤ G 18 m) (x : Int) : f_X6_isPin_31 (some 14) m ((j : Int) - 1) x S = some ((0, Bo (0 ≤ x ∧ x < pc G (jm G m j)), none), S) := by
  have := gi.lt hm
  have := gi.ni hm
  have hl := jm_lt gi hm hj
  unfold f_X6_isPin_31
  by_cases hj0 : j = 0
  · subst hj0
    rw [if_pos (by omega)]
    have := isPin_51 h g gi hm x
    simpa [jm] using this
  · have e := gi.fv (k := j - 1) hm (by omega)
    have e1 : (64 * (m : Int) + ((j : Int) - 1)).toNat = 64 * m + (j - 1) := by omega
    have e2 : jm G m j = fo G m (j - 1) := if_neg hj0
    simp (disch := omega) only [fr_14_2 h, fr_14_3 h, fr_14_4 h, fr_14_5 h, fr_14_6 h, fr_14_7 h, fr_14_8 h, fr_14_10 h, fr_14_11 h, fr_14_12 h, ma_15 h g, ma_16 h g, ma_17 h g, ma_18 h g, ma_19 h g, ma_20 h g, ma_21 h g, ma_22 h g, ma_23 h g, ma_24 h g, mg_1 h g, mg_9 h g, mg_0 h, fp_14 h, fk_14 h, Option.bind_some, chk_ok, gd_1, e1]
    rw [if_neg (by omega), e.1, e2]
    exact isPin_51 h g gi e.2 x
def isPn (G : Nat → Nat → Int) (x y z : Int) : Prop := (0 ≤ x ∧ x < G 14 1) ∧ (-1 ≤ y ∧ y < G 18 x.toNat) ∧ 0 ≤ z ∧ z < pc G (jm G x.toNat (y + 1).toNat)
theorem isPin_t {G : Nat → Nat → Int} {S : AS} (h : Fix S) (g : Ag G S) (gi : GI G) {m j : Nat} (hm : (m : Int) < G 14 1) (hj : (j : Int) ≤ G 18 m) (x : Int) : f_X6_isPin (some 14) m ((j : Int) - 1) x S = some ((0, Bo (0 ≤ x ∧ x < pc G (jm G m j)), none), S) := by
  have := gi.lt hm
  unfold f_X6_isPin
  simp only [mg_1 h g, Option.bind_some, isIn_t (x := (m : Int)) (n := G 14 1) ⟨by omega, hm⟩, cI_s]
  rw [if_neg (by decide)]
  by_cases hj0 : j = 0
  · subst hj0
    rw [if_pos (by omega)]
    exact isPin_31 h g gi hm (by omega) x
  · rw [if_neg (by omega)]
    have e1 := isIn_t (x := (j : Int) - 1) (n := G 18 m) (S := S) ⟨by omega, by omega⟩
    simp (disch := omega) only [fr_14_2 h, fr_14_3 h, fr_14_4 h, fr_14_5 h, fr_14_6 h, fr_14_7 h, fr_14_8 h, fr_14_10 h, fr_14_11 h, fr_14_12 h, ma_15 h g, ma_16 h g, ma_17 h g, ma_18 h g, ma_19 h g, ma_20 h g, ma_21 h g, ma_22 h g, ma_23 h g, ma_24 h g, mg_1 h g, mg_9 h g, mg_0 h, fp_14 h, fk_14 h, Option.bind_some, chk_ok, gd_1, tn, e1, cI_s]
    rw [if_neg (by decide)]
    exact isPin_31 h g gi hm hj x
theorem isPin_eq {G : Nat → Nat → Int} {S : AS} (h : Fix S) (g : Ag G S) (gi : GI G) (x y z : Int) [Decidable (isPn G x y z)] : f_X6_isPin (some 14) x y z S = some ((0, Bo (isPn G x y z), none), S) := by
  by_cases hx : 0 ≤ x ∧ x < G 14 1
  · obtain ⟨m, rfl⟩ : ∃ m : Nat, x = m := ⟨x.toNat, by omega⟩
    by_cases hy : -1 ≤ y ∧ y < G 18 m
    · obtain ⟨j, rfl⟩ : ∃ j : Nat, y = (j : Int) - 1 := ⟨(y + 1).toNat, by omega⟩
      rw [isPin_t h g gi hx.2 (by omega)]
      have e : ((j : Int) - 1 + 1).toNat = j := by omega
      by_cases hz : 0 ≤ z ∧ z < pc G (jm G m j)
      · rw [Bo_t hz, Bo_t]
        unfold isPn
        rw [e, tn]
        exact ⟨hx, hy, hz⟩
      · rw [Bo_f hz, Bo_f]
        unfold isPn
        rw [e, tn]
        exact fun q => hz q.2.2
    · rw [Bo_f (by unfold isPn; rw [tn]; exact fun q => hy q.2.1)]
      unfold f_X6_isPin
      have := gi.lt hx.2
      have := gi.ni hx.2
      have e1 := isIn_f (x := y) (n := G 18 m) (S := S) (by omega)
      simp (disch := omega) only [fr_14_2 h, fr_14_3 h, fr_14_4 h, fr_14_5 h, fr_14_6 h, fr_14_7 h, fr_14_8 h, fr_14_10 h, fr_14_11 h, fr_14_12 h, ma_15 h g, ma_16 h g, ma_17 h g, ma_18 h g, ma_19 h g, ma_20 h g, ma_21 h g, ma_22 h g, ma_23 h g, ma_24 h g, mg_1 h g, mg_9 h g, mg_0 h, fp_14 h, fk_14 h, Option.bind_some, chk_ok, gd_1, isIn_t hx, cI_s, tn, e1]
      rw [if_neg (by decide), if_neg (by omega), if_true]
      rfl
  · rw [Bo_f (by unfold isPn; exact fun q => hx q.1)]
    unfold f_X6_isPin
    simp only [mg_1 h g, Option.bind_some, isIn_f hx, cI_s, if_true, rZ_0]
