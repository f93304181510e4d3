/-! an instance more -/
variable {sh ins : Nat → Nat} {pl nt wy : Nat → Nat → Nat} {tg : Nat → Nat × Nat}
section
variable {G : Nat → Nat → Int} {S : AS}
def isG (G : Nat → Nat → Int) (m y : Nat) : Nat → Nat → Int := uq (uq (uq (chg G m) 19 (64 * m + (G 18 m).toNat) y) 23 (64 * m + (G 18 m).toNat) 0) 18 m (G 18 m + 1)
theorem m_inst (h : Fix S) (g : Ag G S) (gi : GI G) (x y : Int) : (¬ ((0 ≤ x ∧ x < G 14 1) ∧ 0 ≤ y ∧ y < G 14 1) → MO S (f_X6_instance (some 14) x y S) 1 0 G) ∧ ((0 ≤ x ∧ x < G 14 1) ∧ 0 ≤ y ∧ y < G 14 1 → (G 18 x.toNat = 64 → MO S (f_X6_instance (some 14) x y S) 2 0 G) ∧ (G 18 x.toNat ≠ 64 → (Rc G y.toNat x.toNat → MO S (f_X6_instance (some 14) x y S) 0 (-1) G) ∧ (¬ Rc G y.toNat x.toNat → MO S (f_X6_instance (some 14) x y S) 0 (G 18 x.toNat) (isG G x.toNat y.toNat)))) := by
  have l0 := gi.1
  have bad : ∀ T, T = S → f_X6_instance_26 (some 14) x y T = some ((0, 0, none), wI S 14 0 1) := by
    intro T hT
    subst hT
    unfold f_X6_instance_26 f_X6_instance_27
    rw [if_pos rfl]
    unfold f_X6_instance_38
    rw [if_pos rfl]
    unfold f_X6_instance_57 f_X6_instance_58
    rw [gd_t (fk_14 h), refused_i h, cI_s, if_neg (by decide), rI_s]
  constructor
  · intro hq
    refine MO.th g ?_
    unfold f_X6_instance
    rw [mg_1 h g, Option.bind_some]
    by_cases hx : 0 ≤ x ∧ x < G 14 1
    · rw [isIn_t hx, cI_s, if_neg (by decide), mg_1 h g, Option.bind_some, isIn_f (fun q => hq ⟨hx, q⟩), cI_s, if_pos rfl]
      exact bad S rfl
    · rw [isIn_f hx, cI_s, if_pos rfl]
      exact bad S rfl
  · rintro ⟨hx, hy⟩
    obtain ⟨m, rfl⟩ : ∃ m : Nat, x = m := ⟨x.toNat, by omega⟩
    obtain ⟨w, rfl⟩ : ∃ w : Nat, y = w := ⟨y.toNat, by omega⟩
    rw [tn, tn]
    have hm : (m : Int) < G 14 1 := hx.2
    have lm := gi.lt hm
    have ni := gi.ni hm
    have h0 := h.wI 14 0 0
    have g0 := g.w1 (v := 0) kor_0
    have e0 : f_X6_instance (some 14) m w S = if G 18 m = 64 then f_X6_instance_58 (some 14) m w 1 0 (some 14) S else f_X6_instance_58 (some 14) m w 0 0 (some 14) S := by
      unfold f_X6_instance
      rw [mg_1 h g, Option.bind_some, isIn_t hx, cI_s, if_neg (by decide), mg_1 h g, Option.bind_some, isIn_t hy, cI_s, if_neg (by decide)]
      unfold f_X6_instance_27
      rw [if_neg (by decide)]
      unfold f_X6_instance_38
      rw [if_neg (by decide), fr_14_5 h, Option.bind_some, ma_18 h g (by omega) (by omega), Option.bind_some, tn]
      rfl
    rw [e0]
    refine ⟨fun h64 => MO.th g ?_, fun h64 => ?_⟩
    · rw [if_pos h64]
      unfold f_X6_instance_58
      rw [gd_t (fk_14 h), refused_s h, cI_s, if_neg (by decide), rI_s]
    · rw [if_neg h64]
      have hd := Classical.propDecidable (Rc G w m)
      obtain ⟨T, eT, aT⟩ := within_m h0 g0 gi (x := w) (m := m) hy.2 hm
      obtain ⟨fT, gT, mT, tT⟩ := aT.ok h0 g0
      have e1 : f_X6_instance_58 (some 14) m w 0 0 (some 14) S = if Bo (Rc G w m) = 0 then cV (f_X6_change (some 14) m T) (fun S7 => (gR S7 (some 14) 7 5).bind fun o10 => (aI S7 o10 8 (m : Int)).bind fun v11 => (gR S7 (some 14) 7 6).bind fun o12 => (chk (64 * (m : Int))).bind fun z13 => (chk (z13 + v11)).bind fun z14 => (sI S7 o12 8 z14 (w : Int)).bind fun S15 => (gR S15 (some 14) 7 11).bind fun o16 => (chk (64 * (m : Int))).bind fun z17 => (chk (z17 + v11)).bind fun z18 => (sI S15 o16 8 z18 0).bind fun S19 => (gR S19 (some 14) 7 5).bind fun o20 => (aI S19 o20 8 (m : Int)).bind fun v21 => (chk (v21 + 1)).bind fun z22 => (sI S19 o20 8 (m : Int) z22).bind fun S23 => rI v11 S23) else rI (-1) T := by
        unfold f_X6_instance_58
        rw [gd_t (fk_14 h), refused_n h, cI_s, if_pos rfl, gd_t (fk_14 h0), eT, cI_s, gd_t (fk_14 fT)]
      rw [e1]
      constructor
      · intro hr
        rw [Bo_t hr, if_neg (by decide), rI_s]
        refine ⟨T, rfl, (MF.w1 S 0 0 (by decide) (by decide)).tr mT, ?_, gT⟩
        rw [tT, hI_w0]
      · intro hr
        rw [Bo_f hr, if_pos rfl]
        obtain ⟨U, eU, mU, tU, gU⟩ := change_eq fT gT gi hm
        have fU := mU.fix fT
        have f15 := fU.wI 19 (64 * m + (G 18 m).toNat) (w : Int)
        have g15 := gU.u1 (a := 19) (k := 64 * m + (G 18 m).toNat) (v := (w : Int))
        have f19 := f15.wI 23 (64 * m + (G 18 m).toNat) 0
        have g19 := g15.u1 (a := 23) (k := 64 * m + (G 18 m).toNat) (v := 0)
        have g23 := g19.u1 (a := 18) (k := m) (v := G 18 m + 1)
        have c18 : chg G m 18 m = G 18 m := chg_o (by omega)
        have c18' : uq (uq (chg G m) 19 (64 * m + (G 18 m).toNat) w) 23 (64 * m + (G 18 m).toNat) 0 18 m = G 18 m := by rw [uq_ne (by omega), uq_ne (by omega)]; exact c18
        have en : (64 * (m : Int) + G 18 m).toNat = 64 * m + (G 18 m).toNat := by omega
        refine ⟨wI (wI (wI U 19 (64 * m + (G 18 m).toNat) w) 23 (64 * m + (G 18 m).toNat) 0) 18 m (G 18 m + 1), ?_, ((((MF.w1 S 0 0 (by decide) (by decide)).tr mT).tr mU).tr (MF.w1 _ _ _ (by decide) (by decide))).tr ((MF.w1 _ _ _ (by decide) (by decide)).tr (MF.w1 _ _ _ (by decide) (by decide))), ?_, g23⟩
        · rw [eU, cV_s, fr_14_5 fU, Option.bind_some, ma_18 fU gU (by omega) (by omega), Option.bind_some, tn, c18, fr_14_6 fU, Option.bind_some, chk_ok (by omega) (by omega), Option.bind_some, chk_ok (by omega) (by omega), Option.bind_some, fs_19 fU _ (by omega) (by omega), Option.bind_some, en, fr_14_11 f15, Option.bind_some, Option.bind_some, chk_ok (by omega) (by omega), Option.bind_some, fs_23 f15 _ (by omega) (by omega), Option.bind_some, en, fr_14_5 f19, Option.bind_some, ma_18 f19 g19 (by omega) (by omega), Option.bind_some, tn, c18', chk_ok (by omega) (by omega), Option.bind_some, fs_18 f19 _ (by omega) (by omega), Option.bind_some, tn, rI_s]
        · rw [hI_wI, if_neg (by omega), hI_wI, if_neg (by omega), hI_wI, if_neg (by omega), tU, tT, hI_w0]
/-! the maths of it, after the sharing is undone -/
def inG (G : Nat → Nat → Int) (m y : Nat) : Nat → Nat → Int := uq (uq (uq G 19 (64 * m + (G 18 m).toNat) y) 23 (64 * m + (G 18 m).toNat) 0) 18 m (G 18 m + 1)
theorem isG_eq (m y : Nat) : isG G m y = inG (chg G m) m y := by
  unfold isG inG
  rw [show chg G m 18 m = G 18 m from chg_o (by omega)]
theorem in_o {m y a j : Nat} (h : (a ≠ 19 ∨ j ≠ 64 * m + (G 18 m).toNat) ∧ (a ≠ 23 ∨ j ≠ 64 * m + (G 18 m).toNat) ∧ (a ≠ 18 ∨ j ≠ m)) : inG G m y a j = G a j := by
  unfold inG
  rw [uq_ne h.2.2, uq_ne h.2.1, uq_ne h.1]
theorem in_18 {m y : Nat} : inG G m y 18 m = G 18 m + 1 := uq_at _ _ _ _
theorem in_19 {m y : Nat} : inG G m y 19 (64 * m + (G 18 m).toNat) = y := by
  unfold inG
  rw [uq_ne (by omega), uq_ne (by omega), uq_at]
theorem in_23 {m y : Nat} : inG G m y 23 (64 * m + (G 18 m).toNat) = 0 := by
  unfold inG
  rw [uq_ne (by omega), uq_at]
theorem in_fo {m y i k : Nat} (gi : GI G) (hi : (i : Int) < G 14 1) (hm : (m : Int) < G 14 1) (h64 : G 18 m ≠ 64) (hk : (k : Int) < G 18 i) : fo (inG G m y) i k = fo G i k := by
  have := gi.ni hi
  have := gi.ni hm
  unfold fo
  by_cases c : i = m
  · subst c
    rw [in_o (by omega)]
  · rw [in_o (by omega)]
theorem in_fn {m y : Nat} : fo (inG G m y) m (G 18 m).toNat = y := by
  unfold fo
  rw [in_19, tn]
theorem in_used (gi : GI G) {m y : Nat} (hm : (m : Int) < G 14 1) (h64 : G 18 m ≠ 64) (i : Nat) : used (inG G m y) i ↔ used G i ∨ i = y := by
  have ni := gi.ni hm
  have e1 : inG G m y 14 1 = G 14 1 := in_o (by omega)
  constructor
  · rintro ⟨j, k, a, b, c⟩
    rw [e1] at a
    by_cases cj : j = m
    · subst cj
      rw [in_18] at b
      by_cases ck : k = (G 18 j).toNat
      · subst ck
        rw [in_fn] at c
        exact Or.inr c.symm
      · rw [in_fo gi a hm h64 (by omega)] at c
        exact Or.inl ⟨j, k, a, by omega, c⟩
    · rw [in_o (by omega)] at b
      rw [in_fo gi a hm h64 b] at c
      exact Or.inl ⟨j, k, a, b, c⟩
  · rintro (⟨j, k, a, b, c⟩ | c)
    · refine ⟨j, k, by rw [e1]; exact a, ?_, by rw [in_fo gi a hm h64 b]; exact c⟩
      by_cases cj : j = m
      · subst cj
        rw [in_18]; omega
      · rw [in_o (by omega)]; exact b
    · exact ⟨m, (G 18 m).toNat, by rw [e1]; exact hm, by rw [in_18]; omega, by rw [in_fn, c]⟩
theorem GI.inst (gi : GI G) {m y : Nat} (hm : (m : Int) < G 14 1) (hy : (y : Int) < G 14 1) (h64 : G 18 m ≠ 64) (hr : ¬ Rc G y m) : GI (inG G m y) := by
  obtain ⟨h1, h2, ⟨rk, h3⟩, h4, h5⟩ := gi
  have gi : GI G := ⟨h1, h2, ⟨rk, h3⟩, h4, h5⟩
  have ni := gi.ni hm
  have e1 : inG G m y 14 1 = G 14 1 := in_o (by omega)
  have e9 : inG G m y 14 9 = G 14 9 := in_o (by omega)
  have hd : ∀ z, Decidable (Rc G y z) := fun z => Classical.propDecidable _
  refine ⟨by rw [e1]; exact h1, fun i hi => ?_, ⟨fun z => if Rc G y z then rk z else rk z + rk y + 1, fun i k hi hk => ?_⟩, by rw [e9]; exact h4, fun j => by rw [in_o (by omega)]; exact h5 j⟩
  · rw [e1] at hi
    have pa : PA G (inG G m y) i := ⟨in_o (by omega), fun k _ => ⟨in_o (by omega), in_o (by omega)⟩⟩
    have e22 : ∀ q, inG G m y 22 q = G 22 q := fun q => in_o (by omega)
    by_cases c : i = m
    · subst c
      obtain ⟨q1, q2, q3, q4, q5, q6, q7, q8⟩ := h2 i hi
      refine ⟨pa.pw q1, by rw [in_18]; omega, by rw [in_o (by omega)]; exact q3, fun k hk => ?_, fun q hq => ?_, fun k q hk hq => ?_, fun k hk => ?_, by rw [in_o (by omega), e9]; exact q8⟩
      · rw [in_18] at hk
        rw [e1]
        by_cases ck : k = (G 18 i).toNat
        · rw [ck, in_19]; omega
        · rw [in_o (by omega)]; exact q4 k (by omega)
      · rw [e22, in_o (by omega), pc_congr pa q1.1]; exact q5 q hq
      · rw [e22, in_o (a := 20) (by omega), in_18]
        have := q6 k q hk hq
        exact ⟨this.1, this.2.1, fun z => this.2.2 (by omega)⟩
      · rw [in_18] at hk
        by_cases ck : k = (G 18 i).toNat
        · rw [ck, in_23]; omega
        · rw [in_o (by omega)]; exact q7 k (by omega)
    · have nii := gi.ni hi
      exact (h2 i hi).of ⟨pa, ⟨in_o (by omega), in_o (by omega)⟩, fun k hk => ⟨in_o (by omega), in_o (by omega)⟩, fun q _ => e22 _, by rw [in_o (by omega), e9]; exact (h2 i hi).2.2.2.2.2.2.2, by rw [e1]; omega⟩
  · rw [e1] at hi
    have key : ∀ k : Nat, (k : Int) < G 18 i → (if Rc G y (fo G i k) then rk (fo G i k) else rk (fo G i k) + rk y + 1) < (if Rc G y i then rk i else rk i + rk y + 1) := fun k hk => by
      have lt := h3 i k hi hk
      by_cases c : Rc G y i
      · have : Rc G y (fo G i k) := fun P hP hc => hc i k hi (c P hP hc) hk
        rw [if_pos c, if_pos this]; exact lt
      · rw [if_neg c]
        split <;> omega
    dsimp only
    by_cases c : i = m
    · subst c
      rw [in_18] at hk
      by_cases ck : k = (G 18 i).toNat
      · rw [ck, in_fn, if_pos (show Rc G y y from fun P hP _ => hP), if_neg hr]
        omega
      · rw [in_fo gi hi hi h64 (by omega)]
        exact key k (by omega)
    · rw [in_o (by omega)] at hk
      rw [in_fo gi hi hm h64 hk]
      exact key k hk
/-- the class's cells with a placement more -/
theorem Cls.inst (C : Cls sh ins pl nt wy tg G S) (gi : GI G) {m y : Nat} (hm : (m : Int) < G 14 1) (hy : (y : Int) < G 14 1) (h64 : G 18 m ≠ 64) (hmy : m ≠ y) (al1 : ∀ j : Nat, (j : Int) < G 14 1 → j ≠ m → ins j ≠ ins m) {T : AS} {b : Nat} (hb : hn S = b) (h39 : 39 ≤ b)
    (nT : hn T = b + 3) (od : ∀ x, x < b → x ≠ ins m → x ≠ ins m + 2 → x ≠ sh y → Od x S T)
    (sy : SA S T (sh y) 5) (sy5 : hI T (sh y) 5 = 1) (sa : hk T (ins m) = hk S (ins m) ∧ (∀ j, j ≠ 2 → hI T (ins m) j = hI S (ins m) j) ∧ ∀ j, hR T (ins m) j = hR S (ins m) j) (sa2 : hI T (ins m) 2 = G 18 m + 1)
    (sp : hk T (ins m + 2) = hk S (ins m + 2) ∧ hl T (ins m + 2) = hl S (ins m + 2) ∧ ∀ j, hR T (ins m + 2) j = if j = (G 18 m).toNat then some (b + 2) else hR S (ins m + 2) j)
    (tw : hk T b = 8 ∧ hl T b = 1 ∧ hI T b 0 = G 18 m) (tz : hk T (b + 1) = 8 ∧ (hl T (b + 1) : Int) = pc G y ∧ ∀ q : Nat, (q : Int) < pc G y → hI T (b + 1) q = -1)
    (tp : hk T (b + 2) = 4 ∧ hR T (b + 2) 0 = some (sh y) ∧ hR T (b + 2) 1 = some b ∧ hR T (b + 2) 2 = some (b + 1)) : ∃ (pl' nt' wy' : Nat → Nat → Nat) (tg' : Nat → Nat × Nat), Cls sh ins pl' nt' wy' tg' (inG G m y) T := by
  have ni := gi.ni hm
  have e1 : inG G m y 14 1 = G 14 1 := in_o (by omega)
  obtain ⟨n, hn9⟩ : ∃ n, (G 18 m).toNat = n := ⟨_, rfl⟩
  obtain ⟨pl', hpl⟩ : ∃ f : Nat → Nat → Nat, ∀ a k, f a k = if a = ins m ∧ k = n then b + 2 else pl a k := ⟨_, fun _ _ => rfl⟩
  obtain ⟨nt', hnt⟩ : ∃ f : Nat → Nat → Nat, ∀ a k, f a k = if a = ins m ∧ k = n then b + 1 else nt a k := ⟨_, fun _ _ => rfl⟩
  obtain ⟨wy', hwy⟩ : ∃ f : Nat → Nat → Nat, ∀ a k, f a k = if a = ins m ∧ k = n then b else wy a k := ⟨_, fun _ _ => rfl⟩
  obtain ⟨tg', htg⟩ : ∃ f : Nat → Nat × Nat, ∀ x, f x = if x < b then tg x else if x = b + 1 then (ins m, n + 1) else (0, 0) := ⟨_, fun _ => rfl⟩
  obtain ⟨mm, ms, ma, mt, mp⟩ := C.mo hm
  obtain ⟨a1, a2, a3, a4, a5, a6⟩ := ma
  have kY := (C.at hy).2.1.1
  have lY := (C.at hy).1
  have okd : ∀ x, x < b → hk S x ≠ 1 → hk S x ≠ 10 → hk S x ≠ 5 → Od x S T := fun x h1 h2 h3 h4 => od x h1 (fun q => h2 (by rw [q]; exact a2.1)) (fun q => h3 (by rw [q]; exact a2.2.2)) (fun q => h4 (by rw [q]; exact kY))
  have pa : ∀ x, PA G (inG G m y) x := fun x => ⟨in_o (by omega), fun k _ => ⟨in_o (by omega), in_o (by omega)⟩⟩
  have cj : ∀ i, cJ (inG G m y) i = cJ G i := fun i => by unfold cJ; rw [e1]; exact cnt_congr _ (fun k _ => by rw [in_o (a := 21) (by omega), in_o (a := 21) (by omega)])
  have sAi : ∀ i : Nat, (i : Int) < G 14 1 → SA S T (sh i) 5 ∧ (hI T (sh i) 5 = if i = y then 1 else hI S (sh i) 5) := fun i hi => by
    by_cases c : i = y
    · subst c
      rw [if_pos rfl]
      exact ⟨sy, sy5⟩
    · have is := (C.at hi).2.1
      have o := od (sh i) (by have := (C.at hi).1; omega) (fun q => by rw [q, a2.1] at is; exact absurd is.1 (by decide)) (fun q => by rw [q, a2.2.2] at is; exact absurd is.1 (by decide)) (fun q => c (C.inj hi hy q))
      rw [if_neg c]
      exact ⟨o.sa 5, o.2.2.1 5⟩
  have h5 : ∀ i : Nat, (i : Int) < G 14 1 → (hI T (sh i) 5 = 0 ∨ hI T (sh i) 5 = 1) ∧ (hI T (sh i) 5 = 1 ↔ used (inG G m y) i) := fun i hi => by
    have s6 := (C.at hi).2.2.2.2.2.1
    rw [(sAi i hi).2, in_used gi hm h64]
    by_cases c : i = y
    · rw [if_pos c]
      exact ⟨Or.inr rfl, by simp [c]⟩
    · rw [if_neg c]
      exact ⟨s6.1, s6.2.trans ⟨Or.inl, fun q => q.resolve_right c⟩⟩
  refine ⟨pl', nt', wy', tg', ?_, fun i hi => ?_, fun i j hi hj => ?_⟩
  · rw [e1, (od 0 (by omega) (by omega) (by omega) (by omega)).2.2.1]; exact C.1
  · rw [e1] at hi
    show MoF sh ins pl' nt' wy' tg' (inG G m y) T i
    obtain ⟨⟨i1, i2⟩, is, ia, it, ip⟩ := C.mo hi
    have ls := is.1
    have la := ia.1
    have oS1 := okd (sh i + 1) (by omega) (by rw [is.2.1.2.1]; decide) (by rw [is.2.1.2.1]; decide) (by rw [is.2.1.2.1]; decide)
    have oS2 := okd (sh i + 2) (by omega) (by rw [is.2.1.2.2]; decide) (by rw [is.2.1.2.2]; decide) (by rw [is.2.1.2.2]; decide)
    have oA1 := okd (ins i + 1) (by omega) (by rw [ia.2.1.2.1]; decide) (by rw [ia.2.1.2.1]; decide) (by rw [ia.2.1.2.1]; decide)
    have oP : ∀ k : Nat, (k : Int) < G 18 i → Od (pl (ins i) k) S T ∧ Od (nt (ins i) k) S T ∧ Od (wy (ins i) k) S T := fun k hk => by
      obtain ⟨p1, p2, p3, p4, p5, p6, p7⟩ := (ip k hk).1
      exact ⟨okd _ (by omega) (by rw [p2.2.2]; decide) (by rw [p2.2.2]; decide) (by rw [p2.2.2]; decide), okd _ (by omega) (by rw [p4.2.2.1]; decide) (by rw [p4.2.2.1]; decide) (by rw [p4.2.2.1]; decide), okd _ (by omega) (by rw [p5.2.2]; decide) (by rw [p5.2.2]; decide) (by rw [p5.2.2]; decide)⟩
    have h1R : hR T 1 i = hR S 1 i := (od 1 (by omega) (by omega) (by omega) (by omega)).2.2.2 i
    by_cases c : i = m
    · subst c
      have hsi := (sAi i hi).1
      obtain ⟨s1, s2, s3, s4, s5, s6, s7, s8⟩ := is
      have w := gi.pw hi
      refine ⟨⟨by rw [h1R]; exact i1, by rw [hsi.2.2]; exact i2⟩, ⟨⟨s1.1, by omega⟩, ⟨by rw [hsi.1]; exact s2.1, by rw [oS1.1]; exact s2.2.1, by rw [oS2.1]; exact s2.2.2⟩, ⟨by rw [oS1.2.1]; exact s3.1, by rw [oS2.2.1]; exact s3.2⟩, ⟨by rw [hsi.2.2]; exact s4.1, by rw [hsi.2.2]; exact s4.2⟩, ⟨by rw [hsi.2.1 0 (by omega)]; exact s5.1, by rw [hsi.2.1 3 (by omega), (pa i).1]; exact s5.2.1, by rw [hsi.2.1 4 (by omega), pc_congr (pa i) w.1]; exact s5.2.2⟩, h5 i hi, fun k hk => ?_, fun q hq => ?_⟩, ⟨⟨a1.1, by omega⟩, ⟨by rw [sa.1]; exact a2.1, by rw [oA1.1]; exact a2.2.1, by rw [sp.1]; exact a2.2.2⟩, ⟨by rw [oA1.2.1]; exact a3.1, by rw [sp.2.1]; exact a3.2⟩, ⟨by rw [sa.2.2]; exact a4.1, by rw [sa.2.2]; exact a4.2⟩, ⟨by rw [sa2, in_18], by rw [sa.2.1 3 (by omega), in_o (by omega)]; exact a5.2.1, by rw [sa.2.1 4 (by omega), cj]; exact a5.2.2⟩, fun q hq => ?_⟩, ⟨by rw [htg, if_pos (by omega)]; exact it.1, by rw [htg, if_pos (by omega)]; exact it.2⟩, fun k hk => ?_⟩
      · rw [oS1.2.2.1, s7 k hk, (pa i).1]
        by_cases cl : (k : Int) < G 15 i
        · rw [if_pos cl, if_pos cl, ((pa i).2 k cl).1]
        · rw [if_neg cl, if_neg cl]
      · rw [pc_congr (pa i) w.1] at hq
        rw [oS2.2.2.1, s8 q hq, ob_congr (pa i) w.1]
      · rw [oA1.2.2.1, in_o (by omega)]; exact a6 q hq
      · rw [in_18] at hk
        by_cases ck : k = n
        · subst ck
          have ef : fo (inG G i y) i k = y := by rw [← hn9]; exact in_fn
          have e23 : inG G i y 23 (64 * i + k) = 0 := by rw [← hn9]; exact in_23
          have wy9 := gi.pw hy
          have py := pc_le wy9
          rw [hpl, hnt, hwy, if_pos ⟨rfl, rfl⟩, if_pos ⟨rfl, rfl⟩, if_pos ⟨rfl, rfl⟩]
          refine ⟨⟨by rw [sp.2.2, if_pos hn9.symm], ⟨by omega, by omega, tp.1⟩, ⟨by rw [ef]; exact tp.2.1, tp.2.2.1, tp.2.2.2⟩, ⟨by omega, by omega, tz.1, by rw [ef, pc_congr (pa y) wy9.1]; exact tz.2.1⟩, ⟨by omega, by omega, tw.1⟩, fun q hq => ?_, ⟨fun _ => ⟨tw.2.1, by rw [tw.2.2]; omega⟩, fun z => absurd e23 z⟩⟩, by rw [htg, if_neg (by omega), if_pos rfl], by rw [htg, if_neg (by omega), if_neg (by omega)]⟩
          rw [ef, pc_congr (pa y) wy9.1] at hq
          rw [tz.2.2 q hq, in_o (by omega)]
          exact (((gi.at hi).2.2.2.2.2.1 k q (by omega) (by omega)).2.2 (by omega)).symm
        · have hk' : (k : Int) < G 18 i := by omega
          obtain ⟨⟨p1, p2, p3, p4, p5, p6, p7⟩, t1, t2⟩ := ip k hk'
          obtain ⟨o1, o2, o3⟩ := oP k hk'
          have lf := (gi.fv hi hk').2
          have wf := gi.pw lf
          have ef : fo (inG G i y) i k = fo G i k := in_fo gi hi hi h64 hk'
          have e23 : inG G i y 23 (64 * i + k) = G 23 (64 * i + k) := in_o (by omega)
          rw [hpl, hnt, hwy, if_neg (by omega), if_neg (by omega), if_neg (by omega)]
          refine ⟨⟨by rw [sp.2.2, if_neg (by omega)]; exact p1, ⟨p2.1, by omega, by rw [o1.1]; exact p2.2.2⟩, ⟨by rw [o1.2.2.2, ef]; exact p3.1, by rw [o1.2.2.2]; exact p3.2.1, by rw [o1.2.2.2]; exact p3.2.2⟩, ⟨p4.1, by omega, by rw [o2.1]; exact p4.2.2.1, by rw [o2.2.1, ef, pc_congr (pa _) wf.1]; exact p4.2.2.2⟩, ⟨p5.1, by omega, by rw [o3.1]; exact p5.2.2⟩, fun q hq => ?_, ?_⟩, by rw [htg, if_pos (by omega)]; exact t1, by rw [htg, if_pos (by omega)]; exact t2⟩
          · rw [ef, pc_congr (pa _) wf.1] at hq
            rw [o2.2.2.1, in_o (by omega)]; exact p6 q hq
          · rw [e23]
            refine ⟨fun z => ?_, fun z => ⟨?_, fun t ht => ?_⟩⟩
            · rw [o3.2.1, o3.2.2.1]; exact p7.1 z
            · rw [o3.2.1]; exact (p7.2 z).1
            · rw [o3.2.2.1, in_o (by omega)]; exact (p7.2 z).2 t ht
    · have ne := al1 i hi c
      have nii := gi.ni hi
      have kAi := ia.2.1
      have oA := od (ins i) (by omega) ne (fun q => by rw [q, a2.2.2] at kAi; exact absurd kAi.1 (by decide)) (fun q => by rw [q, kY] at kAi; exact absurd kAi.1 (by decide))
      have oA2 := od (ins i + 2) (by omega) (fun q => by rw [q, a2.1] at kAi; exact absurd kAi.2.2 (by decide)) (by omega) (fun q => by rw [q, kY] at kAi; exact absurd kAi.2.2 (by decide))
      refine MoF.keep gi hi (C.mo hi) rfl (fun _ _ => rfl) rfl (fun k hk => ?_) (fun x hx => by rw [htg, if_pos (by omega)]) (by omega) h1R (sAi i hi).1 oS1 oS2 (oA.sa 4) oA1 oA2 oP ⟨pa i, ⟨in_o (by omega), in_o (by omega)⟩, fun q _ => in_o (by omega), fun k hk => ⟨in_o (by omega), in_o (by omega), fun t _ => in_o (by omega), fun q _ => in_o (by omega), pa _⟩⟩ ?_ (h5 i hi)
      · rw [hpl, hnt, hwy, if_neg (by omega), if_neg (by omega), if_neg (by omega)]
        exact ⟨rfl, rfl, rfl⟩
      · rw [oA.2.2.1, cj]; exact ia.2.2.2.2.1.2.2
  · rw [e1] at hi hj
    rw [in_o (a := 21) (by omega), in_o (a := 21) (by omega)]
    exact C.2.2 i j hi hj
end
