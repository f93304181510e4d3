/-! the model's calls: what they answer and what becomes of G -/
def MO (S : AS) (c : Option RS) (e v : Int) (G' : Nat → Nat → Int) : Prop := ∃ S', c = some ((0, v, none), S') ∧ MF S S' ∧ hI S' 14 0 = e ∧ Ag G' S'
theorem MO.th {G : Nat → Nat → Int} {S : AS} (g : Ag G S) {c : Option RS} {e v : Int} (hc : c = some ((0, v, none), wI S 14 0 e)) : MO S c e v G := ⟨_, hc, MF.w1 S 0 e (by decide) (by decide), hI_w0 _ _ _ _, g.w1 kor_0⟩
theorem m_netOf {G : Nat → Nat → Int} {S : AS} (h : Fix S) (g : Ag G S) (gi : GI G) (x y z : Int) : (isPn G x y z → MO S (f_X6_netOf (some 14) x y z S) 0 (qn G x.toNat (y + 1).toNat z.toNat) G) ∧ (¬ isPn G x y z → MO S (f_X6_netOf (some 14) x y z S) 1 0 G) := by
  have hd := Classical.propDecidable (isPn G x y z)
  constructor
  · intro hp
    refine MO.th g ?_
    have h1 := h.wI 14 0 0
    have g1 := g.w1 (v := 0) kor_0
    unfold f_X6_netOf
    simp only [gd_t (fk_14 h), isPin_eq h g gi, Bo_t hp, cI_s]
    rw [if_neg (by decide)]
    unfold f_X6_netOf_16
    simp only [gd_t (fk_14 h), refused_n h, cI_s, if_true, fr_14_10 h1, Option.bind_some]
    obtain ⟨hx, hy, hz⟩ := hp
    have l1 := gi.lt (i := x.toNat) (by omega)
    have l2 := gi.ni (i := x.toNat) (by omega)
    have l3 := jm_lt gi (m := x.toNat) (j := (y + 1).toNat) (by omega) (by omega)
    have l4 := pc_le (gi.pw l3)
    have e := at_eq (m := x.toNat) (j := (y + 1).toNat) (p := z.toNat) l1 (by omega) (by omega) (wI S 14 0 0)
    have ex : ((x.toNat : Nat) : Int) = x := by omega
    have ey : (((y + 1).toNat : Nat) : Int) - 1 = y := by omega
    have ez : ((z.toNat : Nat) : Int) = z := by omega
    rw [ex, ey, ez] at e
    have lj : jb (y + 1).toNat ≤ 64 := by unfold jb; split <;> omega
    rw [e, cI_s, ma_22 h1 g1 (by omega) (by omega), Option.bind_some, tn]
    rfl
  · intro hp
    refine MO.th g ?_
    unfold f_X6_netOf
    simp only [gd_t (fk_14 h), isPin_eq h g gi, Bo_f hp, cI_s, if_true]
    unfold f_X6_netOf_16
    simp only [gd_t (fk_14 h), refused_i h, cI_s]
    rw [if_neg (by decide), rI_s]
/-! sharing -/
def al (G : Nat → Nat → Int) (m : Nat) : Nat → Bool
  | 0 => true
  | k + 1 => al G m k && (decide (k = m) || !decide (G 21 k = G 21 m))
def chg (G : Nat → Nat → Int) (m : Nat) : Nat → Nat → Int := if al G m (G 14 1).toNat = true then G else uq (uq G 14 9 (G 14 9 + 1)) 21 m (G 14 9 + 1)
def b2 (b : Bool) : Int := if b = true then 1 else 0
theorem change_4 {G : Nat → Nat → Int} {S : AS} (h : Fix S) (g : Ag G S) (gi : GI G) {m : Nat} (hm : (m : Int) < G 14 1) : ∀ (d k fu : Nat), (G 14 1).toNat = k + d → d < fu → ∃ S', f_X6_change_4 fu (some 14) m (b2 (al G m k)) k S = some ((0, 0, none), S') ∧ MF S S' ∧ hI S' 14 0 = hI S 14 0 ∧ Ag (chg G m) S' := by
  intro d
  have w := gi.1
  have w9 := gi.2.2.2.1
  have lm := gi.lt hm
  induction d with
  | zero =>
    intro k fu hk hf
    obtain ⟨fu, rfl⟩ : ∃ z, fu = z + 1 := ⟨fu - 1, by omega⟩
    unfold f_X6_change_4
    simp only [mg_1 h g, Option.bind_some]
    rw [if_pos (by omega)]
    by_cases c : al G m k = true
    · rw [if_neg (by rw [b2, if_pos c]; decide)]
      refine ⟨S, rfl, MF.rfl' S, rfl, ?_⟩
      unfold chg
      rw [hk, Nat.add_zero, if_pos c]
      exact g
    · rw [if_pos (by rw [b2, if_neg c])]
      have h1 := h.wI 14 9 (G 14 9 + 1)
      have g1 := g.u1 (a := 14) (k := 9) (v := G 14 9 + 1)
      simp (disch := omega) only [fr_14_2 h, fr_14_3 h, fr_14_4 h, fr_14_5 h, fr_14_6 h, fr_14_7 h, fr_14_8 h, fr_14_10 h, fr_14_11 h, fr_14_12 h, ma_15 h g, ma_16 h g, ma_17 h g, ma_18 h g, ma_19 h g, ma_20 h g, ma_21 h g, ma_22 h g, ma_23 h g, ma_24 h g, mg_1 h g, mg_9 h g, mg_0 h, fp_14 h, fk_14 h, fr_14_2 h1, fr_14_3 h1, fr_14_4 h1, fr_14_5 h1, fr_14_6 h1, fr_14_7 h1, fr_14_8 h1, fr_14_10 h1, fr_14_11 h1, fr_14_12 h1, ma_15 h1 g1, ma_16 h1 g1, ma_17 h1 g1, ma_18 h1 g1, ma_19 h1 g1, ma_20 h1 g1, ma_21 h1 g1, ma_22 h1 g1, ma_23 h1 g1, ma_24 h1 g1, mg_1 h1 g1, mg_9 h1 g1, mg_0 h1, fp_14 h1, fk_14 h1, fs_21 h1, Option.bind_some, chk_ok, gd_1, uq_at, tn]
      refine ⟨_, rfl, (MF.w1 S 9 _ (by decide) (by decide)).tr (MF.w1 _ m _ (by decide) (by decide)), rfl, ?_⟩
      unfold chg
      rw [hk, Nat.add_zero, if_neg c]
      exact g1.u1
  | succ d ih =>
    intro k fu hk hf
    obtain ⟨fu, rfl⟩ : ∃ z, fu = z + 1 := ⟨fu - 1, by omega⟩
    unfold f_X6_change_4
    simp only [mg_1 h g, Option.bind_some]
    rw [if_neg (by omega)]
    have step := ih (k + 1) fu (by omega) (by omega)
    have e0 : ((k + 1 : Nat) : Int) = (k : Int) + 1 := by omega
    rw [e0] at step
    have lk := gi.lt (i := k) (by omega)
    by_cases c : al G m k = true
    · have z : (if b2 (al G m k) = 0 then 1 else 2) = 2 := by rw [b2, if_pos c]; rfl
      rw [if_neg (by rw [b2, if_pos c]; decide)]
      by_cases c1 : k = m
      · subst c1
        rw [if_pos rfl]
        unfold f_X6_change_36
        rw [chk_ok (by omega) (by omega), Option.bind_some]
        have : al G k (k + 1) = true := by simp [al, c]
        rw [this] at step
        exact step
      · rw [if_neg (by omega)]
        simp (disch := omega) only [fr_14_2 h, fr_14_3 h, fr_14_4 h, fr_14_5 h, fr_14_6 h, fr_14_7 h, fr_14_8 h, fr_14_10 h, fr_14_11 h, fr_14_12 h, ma_15 h g, ma_16 h g, ma_17 h g, ma_18 h g, ma_19 h g, ma_20 h g, ma_21 h g, ma_22 h g, ma_23 h g, ma_24 h g, mg_1 h g, mg_9 h g, mg_0 h, fp_14 h, fk_14 h, Option.bind_some, chk_ok, gd_1, tn]
        by_cases c2 : G 21 k = G 21 m
        · rw [if_pos c2]
          unfold f_X6_change_40
          rw [chk_ok (by omega) (by omega), Option.bind_some]
          have : al G m (k + 1) = false := by simp [al, c1, c2]
          rw [this] at step
          exact step
        · rw [if_neg c2]
          unfold f_X6_change_36
          rw [chk_ok (by omega) (by omega), Option.bind_some]
          have : al G m (k + 1) = true := by simp [al, c, c2]
          rw [this] at step
          exact step
    · rw [if_pos (by rw [b2, if_neg c])]
      unfold f_X6_change_40
      rw [chk_ok (by omega) (by omega), Option.bind_some]
      have : al G m (k + 1) = false := by
        have : al G m k = false := by simpa using c
        simp [al, this]
      rw [this] at step
      exact step
theorem change_eq {G : Nat → Nat → Int} {S : AS} (h : Fix S) (g : Ag G S) (gi : GI G) {m : Nat} (hm : (m : Int) < G 14 1) : ∃ S', f_X6_change (some 14) m S = some ((0, 0, none), S') ∧ MF S S' ∧ hI S' 14 0 = hI S 14 0 ∧ Ag (chg G m) S' := by
  have := gi.1
  exact change_4 h g gi hm (G 14 1).toNat 0 FU (by omega) (FU_gt (by omega))
theorem chg_o {G : Nat → Nat → Int} {m a j : Nat} (h : a ≠ 21 ∧ (a = 14 → j ≠ 9)) : chg G m a j = G a j := by
  unfold chg
  split
  · rfl
  · rw [uq_ne (by omega), uq_ne (by omega)]
/-- net -/
theorem m_net {G : Nat → Nat → Int} {S : AS} (h : Fix S) (g : Ag G S) (gi : GI G) (x : Int) : (¬ (0 ≤ x ∧ x < G 14 1) → MO S (f_X6_net (some 14) x S) 1 0 G) ∧ ((0 ≤ x ∧ x < G 14 1) → G 20 x.toNat = 128 → MO S (f_X6_net (some 14) x S) 2 0 G) ∧ ((0 ≤ x ∧ x < G 14 1) → G 20 x.toNat ≠ 128 → MO S (f_X6_net (some 14) x S) 0 (G 20 x.toNat) (uq (chg G x.toNat) 20 x.toNat (G 20 x.toNat + 1))) := by
  refine ⟨fun hx => MO.th g ?_, fun hx hn => MO.th g ?_, fun hx hn => ?_⟩
  · unfold f_X6_net
    simp only [mg_1 h g, Option.bind_some, isIn_f hx, cI_s, if_true]
    unfold f_X6_net_19
    simp only [if_true]
    unfold f_X6_net_39 f_X6_net_40
    simp only [gd_t (fk_14 h), refused_i h, cI_s]
    rw [if_neg (by decide), rI_s]
  · have l1 := gi.lt (i := x.toNat) (by omega)
    unfold f_X6_net
    simp only [mg_1 h g, Option.bind_some, isIn_t hx, cI_s]
    rw [if_neg (by decide)]
    unfold f_X6_net_19
    simp (disch := omega) only [fr_14_2 h, fr_14_3 h, fr_14_4 h, fr_14_5 h, fr_14_6 h, fr_14_7 h, fr_14_8 h, fr_14_10 h, fr_14_11 h, fr_14_12 h, ma_15 h g, ma_16 h g, ma_17 h g, ma_18 h g, ma_19 h g, ma_20 h g, ma_21 h g, ma_22 h g, ma_23 h g, ma_24 h g, mg_1 h g, mg_9 h g, mg_0 h, fp_14 h, fk_14 h, Option.bind_some, chk_ok, gd_1]
    rw [if_neg (by decide), if_pos hn]
    unfold f_X6_net_40
    simp only [gd_t (fk_14 h), refused_s h, cI_s]
    rw [if_neg (by decide), rI_s]
  · have l1 := gi.lt (i := x.toNat) (by omega)
    have l2 := gi.nn (i := x.toNat) (by omega)
    have h1 := h.wI 14 0 0
    have g1 := g.w1 (v := 0) kor_0
    obtain ⟨S2, e2, f2, t2, g2⟩ := change_eq h1 g1 gi (m := x.toNat) (by omega)
    have h2 := f2.fix h1
    have ex : ((x.toNat : Nat) : Int) = x := by omega
    rw [ex] at e2
    unfold f_X6_net
    simp only [mg_1 h g, Option.bind_some, isIn_t hx, cI_s]
    rw [if_neg (by decide)]
    unfold f_X6_net_19
    simp (disch := omega) only [fr_14_2 h, fr_14_3 h, fr_14_4 h, fr_14_5 h, fr_14_6 h, fr_14_7 h, fr_14_8 h, fr_14_10 h, fr_14_11 h, fr_14_12 h, ma_15 h g, ma_16 h g, ma_17 h g, ma_18 h g, ma_19 h g, ma_20 h g, ma_21 h g, ma_22 h g, ma_23 h g, ma_24 h g, mg_1 h g, mg_9 h g, mg_0 h, fp_14 h, fk_14 h, Option.bind_some, chk_ok, gd_1]
    rw [if_neg (by decide), if_neg hn]
    unfold f_X6_net_39 f_X6_net_40
    have c1 : chg G x.toNat 20 x.toNat = G 20 x.toNat := chg_o (by omega)
    have h3 := h2.wI 20 x.toNat (G 20 x.toNat + 1)
    have g3 := g2.u1 (a := 20) (k := x.toNat) (v := G 20 x.toNat + 1)
    simp (disch := omega) only [fk_14 h1, fk_14 h, fr_14_2 h2, fr_14_3 h2, fr_14_4 h2, fr_14_5 h2, fr_14_6 h2, fr_14_7 h2, fr_14_8 h2, fr_14_10 h2, fr_14_11 h2, fr_14_12 h2, ma_15 h2 g2, ma_16 h2 g2, ma_17 h2 g2, ma_18 h2 g2, ma_19 h2 g2, ma_20 h2 g2, ma_21 h2 g2, ma_22 h2 g2, ma_23 h2 g2, ma_24 h2 g2, mg_1 h2 g2, mg_9 h2 g2, mg_0 h2, fp_14 h2, fk_14 h2, fs_20 h2, fr_14_2 h3, fr_14_3 h3, fr_14_4 h3, fr_14_5 h3, fr_14_6 h3, fr_14_7 h3, fr_14_8 h3, fr_14_10 h3, fr_14_11 h3, fr_14_12 h3, ma_15 h3 g3, ma_16 h3 g3, ma_17 h3 g3, ma_18 h3 g3, ma_19 h3 g3, ma_20 h3 g3, ma_21 h3 g3, ma_22 h3 g3, ma_23 h3 g3, ma_24 h3 g3, mg_1 h3 g3, mg_9 h3 g3, mg_0 h3, fp_14 h3, fk_14 h3, Option.bind_some, chk_ok, gd_1, refused_n h, cI_s, if_true, e2, cV_s, c1, uq_at, Int.add_sub_cancel, rI_s]
    refine ⟨_, rfl, ((MF.w1 S 0 0 (by decide) (by decide)).tr f2).tr (MF.w1 _ _ _ (by decide) (by decide)), ?_, g3⟩
    · show hI (wI S2 20 x.toNat (G 20 x.toNat + 1)) 14 0 = 0
      rw [hI_wI, if_neg (by omega), t2, hI_w0]
