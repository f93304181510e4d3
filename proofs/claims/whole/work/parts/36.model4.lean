/-! begin, module, copy: rows that are filled and rows that are copied -/
def fl (G : Nat → Nat → Int) (a lo n : Nat) (v : Int) : Nat → Nat → Int := fun b j => if b = a ∧ lo ≤ j ∧ j < lo + n then v else G b j
def cq (G : Nat → Nat → Int) (p1 p2 d s n : Nat) : Nat → Nat → Int := fun b j => if (b = p1 ∨ b = p2) ∧ d ≤ j ∧ j < d + n then G b (j - d + s) else G b j
theorem fl_0 (G : Nat → Nat → Int) (a lo : Nat) (v : Int) : fl G a lo 0 v = G := by funext b j; exact if_neg (by omega)
theorem cq_0 (G : Nat → Nat → Int) (p1 p2 d s : Nat) : cq G p1 p2 d s 0 = G := by funext b j; exact if_neg (by omega)
theorem fl_s (G : Nat → Nat → Int) (a lo k : Nat) (v : Int) : uq (fl G a lo k v) a (lo + k) v = fl G a lo (k + 1) v := by
  funext b j
  unfold uq fl
  by_cases h1 : b = a ∧ j = lo + k
  · rw [if_pos h1, if_pos (by omega)]
  · rw [if_neg h1]
    by_cases h2 : b = a ∧ lo ≤ j ∧ j < lo + k
    · rw [if_pos h2, if_pos (by omega)]
    · rw [if_neg h2, if_neg (by omega)]
theorem cq_s (G : Nat → Nat → Int) (p1 p2 d s k : Nat) : uq (uq (cq G p1 p2 d s k) p1 (d + k) (G p1 (s + k))) p2 (d + k) (G p2 (s + k)) = cq G p1 p2 d s (k + 1) := by
  funext b j
  unfold uq cq
  by_cases h1 : b = p2 ∧ j = d + k
  · obtain ⟨rfl, rfl⟩ := h1
    rw [if_pos ⟨rfl, rfl⟩, if_pos (by omega)]
    congr 1; omega
  · rw [if_neg h1]
    by_cases h2 : b = p1 ∧ j = d + k
    · obtain ⟨rfl, rfl⟩ := h2
      rw [if_pos ⟨rfl, rfl⟩, if_pos (by omega)]
      congr 1; omega
    · rw [if_neg h2]
      by_cases h3 : (b = p1 ∨ b = p2) ∧ d ≤ j ∧ j < d + k
      · rw [if_pos h3, if_pos (by omega)]
      · rw [if_neg h3, if_neg (by omega)]
theorem cq_s1 (G : Nat → Nat → Int) (p d s k : Nat) : uq (cq G p p d s k) p (d + k) (G p (s + k)) = cq G p p d s (k + 1) := by
  rw [← cq_s]
  funext b j
  unfold uq
  split <;> rfl
theorem cq_r {G : Nat → Nat → Int} {p1 p2 d s k b j : Nat} (h : j < d) : cq G p1 p2 d s k b j = G b j := if_neg (by omega)
theorem cq_o {G : Nat → Nat → Int} {p1 p2 d s k b j : Nat} (h : b ≠ p1 ∧ b ≠ p2) : cq G p1 p2 d s k b j = G b j := if_neg (by omega)
theorem uq_r {G : Nat → Nat → Int} {a k b j : Nat} {v : Int} (h : b ≠ a) : uq G a k v b j = G b j := if_neg (by omega)
theorem Ag.fl {G : Nat → Nat → Int} {S : AS} (g : Ag G S) (a lo n : Nat) (v : Int) : Ag (fl G a lo n v) (stI S (fl (hI S) a lo n v)) := fun b j hb => by
  show (if _ then _ else _) = (if _ then _ else _)
  rw [g b j hb]
theorem Ag.cq {G : Nat → Nat → Int} {S : AS} (g : Ag G S) {p1 p2 d s n : Nat} (h1 : 15 ≤ p1 ∧ p1 ≤ 24) (h2 : 15 ≤ p2 ∧ p2 ≤ 24) : Ag (cq G p1 p2 d s n) (stI S (cq (hI S) p1 p2 d s n)) := fun b j hb => by
  show (if _ then _ else _) = (if _ then _ else _)
  rw [g b j hb]
  split
  · rename_i q
    exact g b _ (Or.inl (by omega))
  · rfl
theorem MF.fl (S : AS) {a lo n : Nat} {v : Int} (h1 : 14 ≤ a) (h2 : a ≤ 37) : MF S (stI S (fl (hI S) a lo n v)) := ⟨_, rfl, fun b j hb => if_neg (by omega)⟩
theorem MF.cq (S : AS) {p1 p2 d s n : Nat} (h1 : 15 ≤ p1 ∧ p1 ≤ 24) (h2 : 15 ≤ p2 ∧ p2 ≤ 24) : MF S (stI S (cq (hI S) p1 p2 d s n)) := ⟨_, rfl, fun b j hb => if_neg (by omega)⟩
theorem begin_71 {S : AS} (h : Fix S) {m : Nat} (hm : m < 24) : ∀ (d k fu : Nat), 64 = k + d → d < fu → f_X6_begin_71 fu (some 14) m k (stI S (fl (hI S) 23 (64 * m) k 0)) = some ((0, 0, none), stI S (fl (hI S) 23 (64 * m) 64 0)) := by
  intro d
  induction d with
  | zero =>
    intro k fu hk hf
    obtain ⟨fu, rfl⟩ : ∃ z, fu = z + 1 := ⟨fu - 1, by omega⟩
    unfold f_X6_begin_71
    rw [if_pos (by omega), show k = 64 by omega, rV_s]
  | succ d ih =>
    intro k fu hk hf
    obtain ⟨fu, rfl⟩ : ∃ z, fu = z + 1 := ⟨fu - 1, by omega⟩
    unfold f_X6_begin_71
    have h1 := h.st (fl (hI S) 23 (64 * m) k 0)
    have e1 : (64 * (m : Int) + (k : Int)).toNat = 64 * m + k := by omega
    rw [if_neg (by omega)]
    simp (disch := omega) only [fr_14_11 h1, fs_23 h1, Option.bind_some, chk_ok, gd_1, e1, wI_set, stI_hI, stI_set, fl_s]
    exact ih (k + 1) fu (by omega) (by omega)
theorem begin_43 {S : AS} (h : Fix S) {m : Nat} (hm : m < 24) : ∀ (d k fu : Nat), 8320 = k + d → d < fu → f_X6_begin_43 fu (some 14) m k (stI S (fl (hI S) 22 (8320 * m) k (-1))) = f_X6_begin_71 FU (some 14) m 0 (stI S (fl (hI S) 22 (8320 * m) 8320 (-1))) := by
  intro d
  induction d with
  | zero =>
    intro k fu hk hf
    obtain ⟨fu, rfl⟩ : ∃ z, fu = z + 1 := ⟨fu - 1, by omega⟩
    unfold f_X6_begin_43
    rw [if_pos (by omega), show k = 8320 by omega]
  | succ d ih =>
    intro k fu hk hf
    obtain ⟨fu, rfl⟩ : ∃ z, fu = z + 1 := ⟨fu - 1, by omega⟩
    unfold f_X6_begin_43
    have h1 := h.st (fl (hI S) 22 (8320 * m) k (-1))
    have e1 : (8320 * (m : Int) + (k : Int)).toNat = 8320 * m + k := by omega
    rw [if_neg (by omega)]
    simp (disch := omega) only [fr_14_10 h1, fs_22 h1, Option.bind_some, chk_ok, gd_1, e1, wI_set, stI_hI, stI_set, fl_s]
    exact ih (k + 1) fu (by omega) (by omega)
def bg (G : Nat → Nat → Int) (m : Nat) : Nat → Nat → Int := fl (fl (uq (uq (uq (uq (uq G 15 m 0) 18 m 0) 20 m 0) 14 9 (G 14 9 + 1)) 21 m (G 14 9 + 1)) 22 (8320 * m) 8320 (-1)) 23 (64 * m) 64 0
theorem begin_eq {G : Nat → Nat → Int} {S : AS} (h : Fix S) (g : Ag G S) (gi : GI G) {m : Nat} (hm : m < 24) : ∃ S', f_X6_begin (some 14) m S = some ((0, 0, none), S') ∧ MF S S' ∧ hI S' 14 0 = hI S 14 0 ∧ Ag (bg G m) S' := by
  have w9 := gi.2.2.2.1
  have h1 := h.wI 15 m 0
  have g1 := g.u1 (a := 15) (k := m) (v := 0)
  have h2 := h1.wI 18 m 0
  have g2 := g1.u1 (a := 18) (k := m) (v := 0)
  have h3 := h2.wI 20 m 0
  have g3 := g2.u1 (a := 20) (k := m) (v := 0)
  have h4 := h3.wI 14 9 (G 14 9 + 1)
  have g4 := g3.u1 (a := 14) (k := 9) (v := G 14 9 + 1)
  have h5 := h4.wI 21 m (G 14 9 + 1)
  have g5 := g4.u1 (a := 21) (k := m) (v := G 14 9 + 1)
  unfold f_X6_begin
  have r9 : uq (uq (uq G 15 m 0) 18 m 0) 20 m 0 14 9 = G 14 9 := by rw [uq_r (by decide), uq_r (by decide), uq_r (by decide)]
  simp (disch := omega) only [fr_14_2 h, fr_14_5 h1, fr_14_7 h2, fr_14_8 h4, fs_15 h, fs_18 h1, fs_20 h2, mg_9 h3 g3, fp_14 h3, mg_9 h4 g4, fs_21 h4, Option.bind_some, chk_ok, gd_1, tn, r9, uq_at]
  have e1 := begin_43 h5 hm 8320 0 FU rfl (FU_gt (by decide))
  rw [fl_0, stI_self] at e1
  have h6 := h5.st (fl (hI (wI (wI (wI (wI (wI S 15 m 0) 18 m 0) 20 m 0) 14 9 (G 14 9 + 1)) 21 m (G 14 9 + 1))) 22 (8320 * m) 8320 (-1))
  have e2 := begin_71 h6 hm 64 0 FU rfl (FU_gt (by decide))
  rw [fl_0, stI_self] at e2
  have e0 : ((0 : Nat) : Int) = 0 := rfl
  rw [e0] at e1 e2
  rw [e1, e2]
  refine ⟨_, rfl, ?_, ?_, (g5.fl 22 (8320 * m) 8320 (-1)).fl 23 (64 * m) 64 0⟩
  · exact (((((((MF.w1 S m 0 (by decide) (by decide)).tr (MF.w1 _ m 0 (by decide) (by decide))).tr (MF.w1 _ m 0 (by decide) (by decide))).tr (MF.w1 _ 9 _ (by decide) (by decide))).tr (MF.w1 _ m _ (by decide) (by decide))).tr (MF.fl _ (by decide) (by decide))).tr (MF.fl _ (by decide) (by decide)))
  · rfl
def nwG (G : Nat → Nat → Int) : Nat → Nat → Int := uq (bg G (G 14 1).toNat) 14 1 (G 14 1 + 1)
theorem bg_o {G : Nat → Nat → Int} {m a j : Nat} (h : (a = 14 → j ≠ 9) ∧ a ≠ 22 ∧ a ≠ 23 ∧ (j = m → a ≠ 15 ∧ a ≠ 18 ∧ a ≠ 20 ∧ a ≠ 21)) : bg G m a j = G a j := by
  unfold bg fl
  rw [if_neg (by omega), if_neg (by omega), uq_ne (by omega), uq_ne (by omega), uq_ne (by omega), uq_ne (by omega), uq_ne (by omega)]
theorem m_module {G : Nat → Nat → Int} {S : AS} (h : Fix S) (g : Ag G S) (gi : GI G) : (G 14 1 = 24 → MO S (f_X6_module (some 14) S) 1 0 G) ∧ (G 14 1 ≠ 24 → MO S (f_X6_module (some 14) S) 0 (G 14 1) (nwG G)) := by
  have l0 := gi.1
  constructor
  · intro h24
    refine MO.th g ?_
    have h1 := h.wI 14 0 1
    unfold f_X6_module
    simp only [mg_1 h g, Option.bind_some]
    rw [if_pos h24]
    unfold f_X6_module_15
    simp only [fp_14 h, Option.bind_some, mg_0 h1, hI_w0]
    rw [if_neg (by decide), rI_s]
  · intro h24
    have h1 := h.wI 14 0 0
    have g1 := g.w1 (v := 0) kor_0
    obtain ⟨S2, e2, f2, t2, g2⟩ := begin_eq h1 g1 gi (m := (G 14 1).toNat) (by omega)
    have h2 := f2.fix h1
    have ex : (((G 14 1).toNat : Nat) : Int) = G 14 1 := by omega
    rw [ex] at e2
    have e1 : bg G (G 14 1).toNat 14 1 = G 14 1 := bg_o (by omega)
    have h3 := h2.wI 14 1 (G 14 1 + 1)
    have g3 := g2.u1 (a := 14) (k := 1) (v := G 14 1 + 1)
    unfold f_X6_module
    simp only [mg_1 h g, Option.bind_some]
    rw [if_neg h24]
    unfold f_X6_module_15
    simp (disch := omega) only [fp_14 h, Option.bind_some, chk_ok, gd_1, mg_0 h1, hI_w0, mg_1 h1 g1, fk_14 h1, e2, cV_s, mg_1 h2 g2, e1, fp_14 h2, mg_1 h3 g3, uq_at, Int.add_sub_cancel, rI_s]
    rw [if_pos (by decide)]
    refine ⟨_, rfl, ((MF.w1 S 0 0 (by decide) (by decide)).tr f2).tr (MF.w1 _ _ _ (by decide) (by decide)), ?_, g3⟩
    rw [hI_wI, if_neg (by omega), t2, hI_w0]
/-! copy -/
theorem copy_264 {S : AS} (h : Fix S) {m t : Nat} (ht : t < 24) (hm : m < t) : ∀ (d k fu : Nat), 1536 = k + d → d < fu → f_X6_copy_264 fu (some 14) m t k (stI S (cq (hI S) 24 24 (1536 * t) (1536 * m) k)) = some ((0, (t : Int), none), stI S (cq (hI S) 24 24 (1536 * t) (1536 * m) 1536)) := by
  intro d
  induction d with
  | zero =>
    intro k fu hk hf
    obtain ⟨fu, rfl⟩ : ∃ z, fu = z + 1 := ⟨fu - 1, by omega⟩
    unfold f_X6_copy_264
    rw [if_pos (by omega), show k = 1536 by omega, rI_s]
  | succ d ih =>
    intro k fu hk hf
    obtain ⟨fu, rfl⟩ : ∃ z, fu = z + 1 := ⟨fu - 1, by omega⟩
    unfold f_X6_copy_264
    have h1 := h.st (cq (hI S) 24 24 (1536 * t) (1536 * m) k)
    have e1 : (1536 * (t : Int) + (k : Int)).toNat = 1536 * t + k := by omega
    have e2 : (1536 * (m : Int) + (k : Int)).toNat = 1536 * m + k := by omega
    rw [if_neg (by omega)]
    simp (disch := omega) only [fr_14_12 h1, fs_24 h1, fa_24 h1, Option.bind_some, chk_ok, gd_1, e1, e2, wI_set, stI_hI, stI_set, cq_r, cq_s1]
    exact ih (k + 1) fu (by omega) (by omega)
theorem copy_206 {S : AS} (h : Fix S) {m t : Nat} (ht : t < 24) (hm : m < t) : ∀ (d k fu : Nat), 64 = k + d → d < fu → f_X6_copy_206 fu (some 14) m t k (stI S (cq (hI S) 19 23 (64 * t) (64 * m) k)) = f_X6_copy_264 FU (some 14) m t 0 (stI S (cq (hI S) 19 23 (64 * t) (64 * m) 64)) := by
  intro d
  induction d with
  | zero =>
    intro k fu hk hf
    obtain ⟨fu, rfl⟩ : ∃ z, fu = z + 1 := ⟨fu - 1, by omega⟩
    unfold f_X6_copy_206
    rw [if_pos (by omega), show k = 64 by omega]
  | succ d ih =>
    intro k fu hk hf
    obtain ⟨fu, rfl⟩ : ∃ z, fu = z + 1 := ⟨fu - 1, by omega⟩
    unfold f_X6_copy_206
    have h1 := h.st (cq (hI S) 19 23 (64 * t) (64 * m) k)
    have h2 := h1.wI 19 (64 * t + k) (hI S 19 (64 * m + k))
    have e1 : (64 * (t : Int) + (k : Int)).toNat = 64 * t + k := by omega
    have e2 : (64 * (m : Int) + (k : Int)).toNat = 64 * m + k := by omega
    rw [if_neg (by omega)]
    simp (disch := omega) only [fr_14_6 h1, fs_19 h1, fa_19 h1, Option.bind_some, chk_ok, gd_1, e1, e2, stI_hI, cq_r]
    have e3 : hI (wI (stI S (cq (hI S) 19 23 (64 * t) (64 * m) k)) 19 (64 * t + k) (hI S 19 (64 * m + k))) 23 (64 * m + k) = hI S 23 (64 * m + k) := by
      rw [wI_set, stI_hI, uq_r (by decide), stI_hI, cq_r (by omega)]
    simp (disch := omega) only [fr_14_11 h2, fs_23 h2, fa_23 h2, Option.bind_some, chk_ok, gd_1, e1, e2, e3]
    simp (disch := omega) only [wI_set, stI_hI, stI_set, cq_s]
    exact ih (k + 1) fu (by omega) (by omega)
theorem copy_167 {S : AS} (h : Fix S) {m t : Nat} (ht : t < 24) (hm : m < t) : ∀ (d k fu : Nat), 8320 = k + d → d < fu → f_X6_copy_167 fu (some 14) m t k (stI S (cq (hI S) 22 22 (8320 * t) (8320 * m) k)) = f_X6_copy_206 FU (some 14) m t 0 (stI S (cq (hI S) 22 22 (8320 * t) (8320 * m) 8320)) := by
  intro d
  induction d with
  | zero =>
    intro k fu hk hf
    obtain ⟨fu, rfl⟩ : ∃ z, fu = z + 1 := ⟨fu - 1, by omega⟩
    unfold f_X6_copy_167
    rw [if_pos (by omega), show k = 8320 by omega]
  | succ d ih =>
    intro k fu hk hf
    obtain ⟨fu, rfl⟩ : ∃ z, fu = z + 1 := ⟨fu - 1, by omega⟩
    unfold f_X6_copy_167
    have h1 := h.st (cq (hI S) 22 22 (8320 * t) (8320 * m) k)
    have e1 : (8320 * (t : Int) + (k : Int)).toNat = 8320 * t + k := by omega
    have e2 : (8320 * (m : Int) + (k : Int)).toNat = 8320 * m + k := by omega
    rw [if_neg (by omega)]
    simp (disch := omega) only [fr_14_10 h1, fs_22 h1, fa_22 h1, Option.bind_some, chk_ok, gd_1, e1, e2, wI_set, stI_hI, stI_set, cq_r, cq_s1]
    exact ih (k + 1) fu (by omega) (by omega)
theorem copy_109 {S : AS} (h : Fix S) {m t : Nat} (ht : t < 24) (hm : m < t) (h01 : ∀ j, hI S 17 j = 0 ∨ hI S 17 j = 1) : ∀ (d k fu : Nat), 16 = k + d → d < fu → f_X6_copy_109 fu (some 14) m t k (stI S (cq (hI S) 16 17 (16 * t) (16 * m) k)) = f_X6_copy_167 FU (some 14) m t 0 (stI S (cq (hI S) 16 17 (16 * t) (16 * m) 16)) := by
  intro d
  induction d with
  | zero =>
    intro k fu hk hf
    obtain ⟨fu, rfl⟩ : ∃ z, fu = z + 1 := ⟨fu - 1, by omega⟩
    unfold f_X6_copy_109
    rw [if_pos (by omega), show k = 16 by omega]
  | succ d ih =>
    intro k fu hk hf
    obtain ⟨fu, rfl⟩ : ∃ z, fu = z + 1 := ⟨fu - 1, by omega⟩
    unfold f_X6_copy_109
    have h1 := h.st (cq (hI S) 16 17 (16 * t) (16 * m) k)
    have h2 := h1.wI 16 (16 * t + k) (hI S 16 (16 * m + k))
    have e1 : (16 * (t : Int) + (k : Int)).toNat = 16 * t + k := by omega
    have e2 : (16 * (m : Int) + (k : Int)).toNat = 16 * m + k := by omega
    rw [if_neg (by omega)]
    simp (disch := omega) only [fr_14_3 h1, fs_16 h1, fa_16 h1, Option.bind_some, chk_ok, gd_1, e1, e2, stI_hI, cq_r]
    have e3 : hI (wI (stI S (cq (hI S) 16 17 (16 * t) (16 * m) k)) 16 (16 * t + k) (hI S 16 (16 * m + k))) 17 (16 * m + k) = hI S 17 (16 * m + k) := by
      rw [wI_set, stI_hI, uq_r (by decide), stI_hI, cq_r (by omega)]
    simp (disch := omega) only [fr_14_4 h2, fa_17 h2, Option.bind_some, chk_ok, gd_1, e1, e2, e3, fs_17 h2 (h01 (16 * m + k))]
    simp (disch := omega) only [wI_set, stI_hI, stI_set, cq_s]
    exact ih (k + 1) fu (by omega) (by omega)
theorem copy_loops {G : Nat → Nat → Int} {S : AS} (h : Fix S) (g : Ag G S) {m t : Nat} (ht : t < 24) (hm : m < t) (o17 : ∀ j, G 17 j = 0 ∨ G 17 j = 1) : ∃ S', f_X6_copy_109 FU (some 14) m t 0 S = some ((0, (t : Int), none), S') ∧ MF S S' ∧ hI S' 14 0 = hI S 14 0 ∧ Ag (cq (cq (cq (cq G 16 17 (16 * t) (16 * m) 16) 22 22 (8320 * t) (8320 * m) 8320) 19 23 (64 * t) (64 * m) 64) 24 24 (1536 * t) (1536 * m) 1536) S' := by
  have e0 : ((0 : Nat) : Int) = 0 := rfl
  have e1 := copy_109 h (m := m) (t := t) ht hm (fun j => by rw [g 17 j (Or.inl (by decide))]; exact o17 j) 16 0 FU rfl (FU_gt (by decide))
  have g1 := g.cq (p1 := 16) (p2 := 17) (d := 16 * t) (s := 16 * m) (n := 16) (by decide) (by decide)
  have f1 := MF.cq S (p1 := 16) (p2 := 17) (d := 16 * t) (s := 16 * m) (n := 16) (by decide) (by decide)
  have h1 := h.st (cq (hI S) 16 17 (16 * t) (16 * m) 16)
  have t1 : hI (stI S (cq (hI S) 16 17 (16 * t) (16 * m) 16)) 14 0 = hI S 14 0 := by rw [stI_hI, cq_o (by decide)]
  rw [cq_0, stI_self, e0] at e1
  generalize stI S (cq (hI S) 16 17 (16 * t) (16 * m) 16) = S1 at e1 g1 f1 h1 t1
  have e2 := copy_167 h1 (m := m) (t := t) ht hm 8320 0 FU rfl (FU_gt (by decide))
  have g2 := g1.cq (p1 := 22) (p2 := 22) (d := 8320 * t) (s := 8320 * m) (n := 8320) (by decide) (by decide)
  have f2 := MF.cq S1 (p1 := 22) (p2 := 22) (d := 8320 * t) (s := 8320 * m) (n := 8320) (by decide) (by decide)
  have h2 := h1.st (cq (hI S1) 22 22 (8320 * t) (8320 * m) 8320)
  have t2 : hI (stI S1 (cq (hI S1) 22 22 (8320 * t) (8320 * m) 8320)) 14 0 = hI S1 14 0 := by rw [stI_hI, cq_o (by decide)]
  rw [cq_0, stI_self, e0] at e2
  generalize stI S1 (cq (hI S1) 22 22 (8320 * t) (8320 * m) 8320) = S2 at e2 g2 f2 h2 t2
  have e3 := copy_206 h2 (m := m) (t := t) ht hm 64 0 FU rfl (FU_gt (by decide))
  have g3 := g2.cq (p1 := 19) (p2 := 23) (d := 64 * t) (s := 64 * m) (n := 64) (by decide) (by decide)
  have f3 := MF.cq S2 (p1 := 19) (p2 := 23) (d := 64 * t) (s := 64 * m) (n := 64) (by decide) (by decide)
  have h3 := h2.st (cq (hI S2) 19 23 (64 * t) (64 * m) 64)
  have t3 : hI (stI S2 (cq (hI S2) 19 23 (64 * t) (64 * m) 64)) 14 0 = hI S2 14 0 := by rw [stI_hI, cq_o (by decide)]
  rw [cq_0, stI_self, e0] at e3
  generalize stI S2 (cq (hI S2) 19 23 (64 * t) (64 * m) 64) = S3 at e3 g3 f3 h3 t3
  have e4 := copy_264 h3 (m := m) (t := t) ht hm 1536 0 FU rfl (FU_gt (by decide))
  rw [cq_0, stI_self, e0] at e4
  refine ⟨_, ((e1.trans e2).trans e3).trans e4, ((f1.tr f2).tr f3).tr (MF.cq _ (by decide) (by decide)), ?_, g3.cq (by decide) (by decide)⟩
  rw [stI_hI, cq_o (by decide), t3, t2, t1]
def cpG (G : Nat → Nat → Int) (m t : Nat) : Nat → Nat → Int := cq (cq (cq (cq (uq (uq (uq (uq (uq (bg G t) 14 1 (G 14 1 + 1)) 15 t (G 15 m)) 18 t (G 18 m)) 20 t (G 20 m)) 21 t (G 21 m)) 16 17 (16 * t) (16 * m) 16) 22 22 (8320 * t) (8320 * m) 8320) 19 23 (64 * t) (64 * m) 64) 24 24 (1536 * t) (1536 * m) 1536
theorem m_copy {G : Nat → Nat → Int} {S : AS} (h : Fix S) (g : Ag G S) (gi : GI G) (x : Int) : (¬ (0 ≤ x ∧ x < G 14 1) → MO S (f_X6_copy (some 14) x S) 1 0 G) ∧ ((0 ≤ x ∧ x < G 14 1) → G 14 1 = 24 → MO S (f_X6_copy (some 14) x S) 2 0 G) ∧ ((0 ≤ x ∧ x < G 14 1) → G 14 1 ≠ 24 → MO S (f_X6_copy (some 14) x S) 0 (G 14 1) (cpG G x.toNat (G 14 1).toNat)) := by
  have l0 := gi.1
  refine ⟨fun hx => MO.th g ?_, fun hx hn => MO.th g ?_, fun hx hn => ?_⟩
  · unfold f_X6_copy
    simp only [mg_1 h g, Option.bind_some, isIn_f hx, cI_s, if_true]
    unfold f_X6_copy_17
    simp only [mg_1 h g, Option.bind_some]
    unfold f_X6_copy_31
    simp only [gd_t (fk_14 h), refused_i h, cI_s]
    split <;> rw [if_neg (by decide), rI_s]
  · unfold f_X6_copy
    simp only [mg_1 h g, Option.bind_some, isIn_t hx, cI_s]
    rw [if_neg (by decide)]
    unfold f_X6_copy_17
    simp only [mg_1 h g, Option.bind_some]
    rw [if_pos hn]
    unfold f_X6_copy_31
    simp only [gd_t (fk_14 h), refused_s h, cI_s]
    rw [if_neg (by decide), rI_s]
  · obtain ⟨m, rfl⟩ : ∃ m : Nat, x = m := ⟨x.toNat, by omega⟩
    rw [tn]
    have ex : (((G 14 1).toNat : Nat) : Int) = G 14 1 := by omega
    have lt : (G 14 1).toNat < 24 := by omega
    have lm : m < (G 14 1).toNat := by omega
    generalize (G 14 1).toNat = t at ex lt lm ⊢
    have h1 := h.wI 14 0 0
    have g1 := g.w1 (v := 0) kor_0
    obtain ⟨S2, e2, f2, t2, g2⟩ := begin_eq h1 g1 gi (m := t) (by omega)
    rw [ex] at e2
    have h2 := f2.fix h1
    have b1 : bg G t 14 1 = G 14 1 := bg_o (by omega)
    have h3 := h2.wI 14 1 (G 14 1 + 1)
    have g3 := g2.u1 (a := 14) (k := 1) (v := G 14 1 + 1)
    have h4 := h3.wI 15 t (G 15 m)
    have g4 := g3.u1 (a := 15) (k := t) (v := G 15 m)
    have h5 := h4.wI 18 t (G 18 m)
    have g5 := g4.u1 (a := 18) (k := t) (v := G 18 m)
    have h6 := h5.wI 20 t (G 20 m)
    have g6 := g5.u1 (a := 20) (k := t) (v := G 20 m)
    have h7 := h6.wI 21 t (G 21 m)
    have g7 := g6.u1 (a := 21) (k := t) (v := G 21 m)
    have o17 := gi.2.2.2.2
    obtain ⟨S8, e8, f8, t8, g8⟩ := copy_loops h7 g7 (m := m) (t := t) (by omega) (by omega) (fun j => by
      rw [uq_r (by decide), uq_r (by decide), uq_r (by decide), uq_r (by decide), uq_r (by decide), bg_o (by omega)]
      exact o17 j)
    rw [ex] at e8
    have et : (G 14 1).toNat = t := by omega
    have r15 : uq (bg G t) 14 1 (G 14 1 + 1) 15 m = G 15 m := by rw [uq_r (by decide), bg_o (by omega)]
    have r18 : uq (uq (bg G t) 14 1 (G 14 1 + 1)) 15 t (G 15 m) 18 m = G 18 m := by rw [uq_r (by decide), uq_r (by decide), bg_o (by omega)]
    have r20 : uq (uq (uq (bg G t) 14 1 (G 14 1 + 1)) 15 t (G 15 m)) 18 t (G 18 m) 20 m = G 20 m := by rw [uq_r (by decide), uq_r (by decide), uq_r (by decide), bg_o (by omega)]
    have r21 : uq (uq (uq (uq (bg G t) 14 1 (G 14 1 + 1)) 15 t (G 15 m)) 18 t (G 18 m)) 20 t (G 20 m) 21 m = G 21 m := by rw [uq_r (by decide), uq_r (by decide), uq_r (by decide), uq_r (by decide), bg_o (by omega)]
    have e9 : f_X6_copy (some 14) m S = some ((0, G 14 1, none), S8) := by
      unfold f_X6_copy
      simp only [mg_1 h g, Option.bind_some, isIn_t hx, cI_s]
      rw [if_neg (by decide)]
      unfold f_X6_copy_17
      simp only [mg_1 h g, Option.bind_some]
      rw [if_neg hn]
      unfold f_X6_copy_31
      simp (disch := omega) only [fk_14 h, Option.bind_some, chk_ok, gd_1, refused_n h, cI_s, if_true, fk_14 h1, mg_1 h1 g1]
      simp (disch := omega) only [e2, cV_s, Option.bind_some, chk_ok, gd_1, mg_1 h2 g2, b1, fp_14 h2, fr_14_2 h3, ma_15 h3 g3, fs_15 h3, fr_14_5 h4, ma_18 h4 g4, fs_18 h4, fr_14_7 h5, ma_20 h5 g5, fs_20 h5, fr_14_8 h6, ma_21 h6 g6, fs_21 h6, tn, et, r15, r18, r20, r21]
      exact e8
    refine ⟨S8, e9, ?_, ?_, g8⟩
    · exact (((((((MF.w1 S 0 0 (by decide) (by decide)).tr f2).tr (MF.w1 _ 1 _ (by decide) (by decide))).tr (MF.w1 _ t _ (by decide) (by decide))).tr (MF.w1 _ t _ (by decide) (by decide))).tr (MF.w1 _ t _ (by decide) (by decide))).tr (MF.w1 _ t _ (by decide) (by decide))).tr f8
    · rw [t8]
      simp (disch := omega) only [wI_set, stI_hI, uq_ne]
      rw [t2, hI_w0]
