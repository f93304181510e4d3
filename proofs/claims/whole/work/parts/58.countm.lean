/-! the model's measure -/
variable {sh ins : Nat → Nat} {pl nt wy : Nat → Nat → Nat} {tg : Nat → Nat × Nat}
section
variable {G : Nat → Nat → Int} {S : AS}
def sat (G : Nat → Nat → Int) (f : Nat → Int) (x : Nat) : Nat → Int
  | 0 => if G 18 x = 0 then 1 else 0
  | k + 1 => if sat G f x k + f (fo G x k) ≤ 1000000 then sat G f x k + f (fo G x k) else 1000000
theorem sat_lsm {f : Nat → Int} {x : Nat} : ∀ k : Nat, (∀ j : Nat, j < k → 0 ≤ f (fo G x j)) → sat G f x k = if 1000000 < lsm G f x k then 1000000 else lsm G f x k := by
  intro k
  induction k with
  | zero => intro _; simp only [sat, lsm]; split <;> rfl
  | succ k ih =>
    intro h
    have e := ih (fun j hj => h j (by omega))
    have := h k (by omega)
    simp only [sat, lsm]
    rw [e]
    (repeat' split) <;> omega
theorem sat_b {f : Nat → Int} {x : Nat} : ∀ k : Nat, (∀ j : Nat, j < k → 0 ≤ f (fo G x j)) → 0 ≤ sat G f x k ∧ sat G f x k ≤ 1000000 := by
  intro k
  induction k with
  | zero => intro _; simp only [sat]; split <;> omega
  | succ k ih =>
    intro h
    have := ih (fun j hj => h j (by omega))
    have := h k (by omega)
    simp only [sat]
    split <;> omega
def A67 (S T : AS) : Prop := ∃ J, T = stI S J ∧ ∀ a j, a ≠ 36 → a ≠ 37 → J a j = hI S a j
theorem A67.rfl' (S : AS) : A67 S S := ⟨hI S, rfl, fun _ _ _ _ => rfl⟩
theorem A67.ok {T : AS} (h : A67 S T) (hf : Fix S) (g : Ag G S) : Fix T ∧ Ag G T ∧ MF S T ∧ hI T 14 0 = hI S 14 0 := by
  obtain ⟨J, rfl, hJ⟩ := h
  exact ⟨hf.st J, fun a j hc => (hJ a j (by unfold kor at hc; omega) (by unfold kor at hc; omega)).trans (g a j hc), ⟨J, rfl, fun a j ha => hJ a j (by omega) (by omega)⟩, hJ 14 0 (by decide) (by decide)⟩
theorem A67.w {T : AS} (h : A67 S T) {a : Nat} (ha : a = 36 ∨ a = 37) (k : Nat) (v : Int) : A67 S (wI T a k v) := by
  obtain ⟨J, rfl, hJ⟩ := h
  exact ⟨uq J a k v, rfl, fun b j h1 h2 => (uq_ne (by omega)).trans (hJ b j h1 h2)⟩
theorem measure_69 (h : Fix S) (g : Ag G S) (gi : GI G) {m : Nat} (hm : (m : Int) < G 14 1) (k32 : Option Nat → Int → AS → Option RS) (k40 : Option Nat → Int → Int → AS → Option RS) {mo : Int} (hmo : mo = 0 ∨ mo = 1) {T : AS} (a : A67 S T) (hv : ∀ k : Nat, (k : Int) < G 18 m → (0 ≤ hI T 36 (fo G m k) ∧ hI T 36 (fo G m k) ≤ 30) ∧ 0 ≤ hI T 37 (fo G m k) ∧ hI T 37 (fo G m k) ≤ 1000000) : ∀ (d k fu : Nat), (G 18 m).toNat = k + d → d < fu → ∃ mo', f_X6_measure_69 fu k32 k40 (some 14) mo m (mxs G (hI T 36) m k) (sat G (hI T 37) m k) k T = k40 (some 14) mo' ((m : Int) + 1) (wI (wI T 36 m (layF G (hI T 36) m)) 37 m (lvF G (hI T 37) m)) ∧ (mo' = 0 ∨ mo' = 1) ∧ (mo' = 0 ↔ mo = 0 ∧ layF G (hI T 36) m = hI T 36 m ∧ lvF G (hI T 37) m = hI T 37 m) := by
  obtain ⟨fT, gT, -, -⟩ := a.ok h g
  have ni := gi.ni hm
  have lm := gi.lt hm
  intro d
  induction d with
  | zero =>
    intro k fu hk hf
    obtain ⟨fu, rfl⟩ : ∃ z, fu = z + 1 := ⟨fu - 1, by omega⟩
    have ek : (G 18 m).toNat = k := by omega
    have e1 : layF G (hI T 36) m = mxs G (hI T 36) m k := by unfold layF; rw [ek]
    have e2 : lvF G (hI T 37) m = sat G (hI T 37) m k := by
      rw [sat_lsm k (fun j hj => (hv j (by omega)).2.1)]
      unfold lvF
      rw [ek]
    rw [e1, e2]
    have f2 := fT.wI 36 m (mxs G (hI T 36) m k)
    have st : ∀ t0, f_X6_measure_189 k32 k40 (some 14) m (mxs G (hI T 36) m k) (sat G (hI T 37) m k) t0 T = k40 (some 14) t0 ((m : Int) + 1) (wI (wI T 36 m (mxs G (hI T 36) m k)) 37 m (sat G (hI T 37) m k)) := fun t0 => by
      unfold f_X6_measure_189
      rw [fr_14_26 fT, Option.bind_some, fs_36 fT _ (by omega) (by omega), Option.bind_some, tn, fr_14_27 f2, Option.bind_some, fs_37 f2 _ (by omega) (by omega), Option.bind_some, tn, chk_ok (by omega) (by omega), Option.bind_some]
    have ea : f_X6_measure_69 (fu + 1) k32 k40 (some 14) mo m (mxs G (hI T 36) m k) (sat G (hI T 37) m k) k T = k40 (some 14) (if mo = 0 then if mxs G (hI T 36) m k = hI T 36 m then if sat G (hI T 37) m k = hI T 37 m then 0 else 1 else 1 else 1) ((m : Int) + 1) (wI (wI T 36 m (mxs G (hI T 36) m k)) 37 m (sat G (hI T 37) m k)) := by
      unfold f_X6_measure_69 f_X6_measure_184
      rw [fr_14_5 fT, Option.bind_some, ma_18 fT gT (by omega) (by omega), Option.bind_some, tn, if_pos (by omega), fr_14_26 fT, Option.bind_some, fa_36 fT (by omega) (by omega), Option.bind_some, fr_14_27 fT, Option.bind_some, fa_37 fT (by omega) (by omega), Option.bind_some, tn, st 0, st 1]
      by_cases c0 : mo = 0
      · by_cases c1 : mxs G (hI T 36) m k = hI T 36 m
        · by_cases c2 : sat G (hI T 37) m k = hI T 37 m
          · simp only [if_pos c0, if_pos c1, if_pos c2]
          · simp only [if_pos c0, if_pos c1, if_neg c2]
        · simp only [if_pos c0, if_neg c1]
      · simp only [if_neg c0]
    refine ⟨_, ea, ?_, ?_⟩
    · split
      · split
        · split
          · exact Or.inl rfl
          · exact Or.inr rfl
        · exact Or.inr rfl
      · exact Or.inr rfl
    · by_cases c0 : mo = 0
      · by_cases c1 : mxs G (hI T 36) m k = hI T 36 m
        · by_cases c2 : sat G (hI T 37) m k = hI T 37 m
          · rw [if_pos c0, if_pos c1, if_pos c2]; simp [c0, c1, c2]
          · rw [if_pos c0, if_pos c1, if_neg c2]; simp [c2]
        · rw [if_pos c0, if_neg c1]; simp [c1]
      · rw [if_neg c0]; simp [c0]
  | succ d ih =>
    intro k fu hk hf
    obtain ⟨fu, rfl⟩ : ∃ z, fu = z + 1 := ⟨fu - 1, by omega⟩
    have hkm : (k : Int) < G 18 m := by omega
    have ef := gi.fv hm hkm
    have lf := gi.lt ef.2
    have b := hv k hkm
    have e1 : (64 * (m : Int) + (k : Int)).toNat = 64 * m + k := by omega
    have mb := mxs_b (G := G) (f := hI T 36) (x := m) (B := 31) (by decide) k (fun j hj => by have := hv j (by omega); omega)
    have sb := sat_b (G := G) (f := hI T 37) (x := m) k (fun j hj => (hv j (by omega)).2.1)
    have st : ∀ t0, f_X6_measure_120 k32 k40 (f_X6_measure_69 fu k32 k40) (some 14) mo m (sat G (hI T 37) m k) k (fo G m k : Int) t0 T = f_X6_measure_69 fu k32 k40 (some 14) mo m t0 (sat G (hI T 37) m (k + 1)) ((k + 1 : Nat) : Int) T := fun t0 => by
      unfold f_X6_measure_120
      rw [fr_14_27 fT, Option.bind_some, fa_37 fT (by omega) (by omega), Option.bind_some, tn, chk_ok (x := sat G (hI T 37) m k + hI T 37 (fo G m k)) (by omega) (by omega), Option.bind_some]
      simp only [sat]
      by_cases c : sat G (hI T 37) m k + hI T 37 (fo G m k) ≤ 1000000
      · rw [if_pos c, if_pos c, Option.bind_some, fa_37 fT (by omega) (by omega), Option.bind_some, tn, chk_ok (x := sat G (hI T 37) m k + hI T 37 (fo G m k)) (by omega) (by omega), Option.bind_some, chk_ok (by omega) (by omega), Option.bind_some]
        rfl
      · rw [if_neg c, if_neg c, chk_ok (by omega) (by omega), Option.bind_some]
        rfl
    have e0 : f_X6_measure_69 (fu + 1) k32 k40 (some 14) mo m (mxs G (hI T 36) m k) (sat G (hI T 37) m k) k T = f_X6_measure_69 fu k32 k40 (some 14) mo m (mxs G (hI T 36) m (k + 1)) (sat G (hI T 37) m (k + 1)) ((k + 1 : Nat) : Int) T := by
      conv => lhs; unfold f_X6_measure_69
      rw [fr_14_5 fT, Option.bind_some, ma_18 fT gT (by omega) (by omega), Option.bind_some, tn, if_neg (by omega), fr_14_6 fT, Option.bind_some, chk_ok (x := 64 * (m : Int)) (by omega) (by omega), Option.bind_some, chk_ok (x := 64 * (m : Int) + (k : Int)) (by omega) (by omega), Option.bind_some, ma_19 fT gT (by omega) (by omega), Option.bind_some, e1, ef.1, fr_14_26 fT, Option.bind_some, fa_36 fT (by omega) (by omega), Option.bind_some, tn, chk_ok (x := hI T 36 (fo G m k) + 1) (by omega) (by omega), Option.bind_some]
      simp only [mxs]
      by_cases c : hI T 36 (fo G m k) + 1 ≤ mxs G (hI T 36) m k
      · rw [if_pos c, if_neg (by omega), st]
      · rw [if_neg c, if_pos (by omega), Option.bind_some, fa_36 fT (by omega) (by omega), Option.bind_some, tn, chk_ok (x := hI T 36 (fo G m k) + 1) (by omega) (by omega), Option.bind_some, st, Int.add_comm]
    rw [e0]
    exact ih (k + 1) fu (by omega) (by omega)
def Rt (G : Nat → Nat → Int) (T : AS) (y : Nat) : Prop := hI T 36 y = lay G y ∧ hI T 37 y = lv G y
def Sn (G : Nat → Nat → Int) (rk : Nat → Nat) (T : AS) : Prop := ∀ y : Nat, (y : Int) < G 14 1 → (0 ≤ hI T 36 y ∧ hI T 36 y ≤ rk y) ∧ 0 ≤ hI T 37 y ∧ hI T 37 y ≤ 1000000
theorem measure_40 (h : Fix S) (g : Ag G S) (gi : GI G) {rk : Nat → Nat} (r1 : ∀ i : Nat, (i : Int) < G 14 1 → rk i ≤ 23) (r2 : ∀ i k : Nat, (i : Int) < G 14 1 → (k : Int) < G 18 i → rk (fo G i k) < rk i) (t : Nat) (k32 : Option Nat → Int → AS → Option RS) : ∀ (d k fu : Nat) (T : AS) (mo : Int), (G 14 1).toNat = k + d → d < fu → A67 S T → Sn G rk T → (mo = 0 ∨ mo = 1) → (∀ y : Nat, (y : Int) < G 14 1 → rk y < t ∨ (y < k ∧ rk y < t + 1) → Rt G T y) → ∃ T' mo', f_X6_measure_40 fu k32 (some 14) mo k T = k32 (some 14) mo' T' ∧ A67 S T' ∧ Sn G rk T' ∧ (mo' = 0 ∨ mo' = 1) ∧ (∀ y : Nat, (y : Int) < G 14 1 → rk y < t + 1 → Rt G T' y) ∧ (mo' = 0 → mo = 0 ∧ (∀ y : Nat, (y : Int) < G 14 1 → hI T' 36 y = hI T 36 y ∧ hI T' 37 y = hI T 37 y) ∧ ∀ y : Nat, k ≤ y → (y : Int) < G 14 1 → layF G (hI T' 36) y = hI T' 36 y ∧ lvF G (hI T' 37) y = hI T' 37 y) ∧ ((∀ y : Nat, (y : Int) < G 14 1 → Rt G T y) → mo = 0 → mo' = 0) := by
  have l0 := gi.1
  intro d
  induction d with
  | zero =>
    intro k fu T mo hk hf a sn hmo ri
    obtain ⟨fu, rfl⟩ : ∃ z, fu = z + 1 := ⟨fu - 1, by omega⟩
    obtain ⟨fT, gT, -, -⟩ := a.ok h g
    refine ⟨T, mo, ?_, a, sn, hmo, fun y hy hr => ri y hy (Or.inr ⟨by omega, hr⟩), fun q => ⟨q, fun _ _ => ⟨rfl, rfl⟩, fun y h1 h2 => by omega⟩, fun _ q => q⟩
    unfold f_X6_measure_40
    rw [mg_1 fT gT, Option.bind_some, if_pos (by omega)]
  | succ d ih =>
    intro k fu T mo hk hf a sn hmo ri
    obtain ⟨fu, rfl⟩ : ∃ z, fu = z + 1 := ⟨fu - 1, by omega⟩
    obtain ⟨fT, gT, -, -⟩ := a.ok h g
    have hkm : (k : Int) < G 14 1 := by omega
    have lk := gi.lt hkm
    have ni := gi.ni hkm
    have kb : ∀ j : Nat, (j : Int) < G 18 k → (0 ≤ hI T 36 (fo G k j) ∧ hI T 36 (fo G k j) ≤ 30) ∧ 0 ≤ hI T 37 (fo G k j) ∧ hI T 37 (fo G k j) ≤ 1000000 := fun j hj => by
      have lf := (gi.fv hkm hj).2
      have := sn _ lf
      have := r1 _ lf
      omega
    obtain ⟨mo1, e1, hm1, iff1⟩ := measure_69 h g gi hkm k32 (f_X6_measure_40 fu k32) hmo a kb (G 18 k).toNat 0 FU (by omega) (FU_gt (by omega))
    obtain ⟨U, hU⟩ : ∃ U, U = wI (wI T 36 k (layF G (hI T 36) k)) 37 k (lvF G (hI T 37) k) := ⟨_, rfl⟩
    have u6 : ∀ y, hI U 36 y = if y = k then layF G (hI T 36) k else hI T 36 y := fun y => by
      rw [hU, hI_wI, if_neg (by omega), hI_wI]
      by_cases c : y = k
      · rw [if_pos ⟨rfl, c⟩, if_pos c]
      · rw [if_neg (by omega), if_neg c]
    have u7 : ∀ y, hI U 37 y = if y = k then lvF G (hI T 37) k else hI T 37 y := fun y => by
      rw [hU, hI_wI]
      by_cases c : y = k
      · rw [if_pos ⟨rfl, c⟩, if_pos c]
      · rw [if_neg (by omega), hI_wI, if_neg (by omega), if_neg c]
    have aU : A67 S U := by rw [hU]; exact (a.w (Or.inl rfl) _ _).w (Or.inr rfl) _ _
    have b6 : 0 ≤ layF G (hI T 36) k ∧ layF G (hI T 36) k ≤ rk k := mxs_b (by omega) _ (fun j hj => by
      have lf := (gi.fv hkm (k := j) (by omega)).2
      have := sn _ lf
      have := r2 k j hkm (by omega)
      omega)
    have b7 := lvF_b (G := G) (f := hI T 37) (x := k) (fun j hj => (kb j hj).2)
    have snU : Sn G rk U := fun y hy => by
      rw [u6, u7]
      by_cases c : y = k
      · subst c
        rw [if_pos rfl, if_pos rfl]
        exact ⟨b6, b7⟩
      · rw [if_neg c, if_neg c]
        exact sn y hy
    have fr : (∀ j : Nat, (j : Int) < G 18 k → Rt G T (fo G k j)) → layF G (hI T 36) k = lay G k ∧ lvF G (hI T 37) k = lv G k := fun q =>
      ⟨(layF_lo _ _ _ hkm (fun j hj => (q j hj).1)).trans (fxp_at gi layF_lo hkm).symm, (lvF_lo _ _ _ hkm (fun j hj => (q j hj).2)).trans (fxp_at gi lvF_lo hkm).symm⟩
    have riU : ∀ y : Nat, (y : Int) < G 14 1 → rk y < t ∨ (y < k + 1 ∧ rk y < t + 1) → Rt G U y := fun y hy q => by
      unfold Rt
      rw [u6, u7]
      by_cases c : y = k
      · subst c
        rw [if_pos rfl, if_pos rfl]
        exact fr (fun j hj => ri _ (gi.fv hkm hj).2 (Or.inl (by have := r2 y j hkm hj; omega)))
      · rw [if_neg c, if_neg c]
        exact ri y hy (by omega)
    obtain ⟨T', mo', e2, a2, sn2, hm2, ri2, z2, w2⟩ := ih (k + 1) fu U mo1 (by omega) (by omega) aU snU hm1 riU
    refine ⟨T', mo', ?_, a2, sn2, hm2, ri2, fun q => ?_, fun q1 q2 => ?_⟩
    · refine Eq.trans ?_ e2
      rw [hU, show ((k + 1 : Nat) : Int) = (k : Int) + 1 by omega, ← e1]
      conv => lhs; unfold f_X6_measure_40
      unfold f_X6_measure_64
      rw [mg_1 fT gT, Option.bind_some, if_neg (by omega), fr_14_5 fT, Option.bind_some, ma_18 fT gT (by omega) (by omega), Option.bind_some, tn]
      simp only [sat, mxs]
      by_cases c : G 18 k = 0
      · rw [if_pos c, if_pos c]; rfl
      · rw [if_neg c, if_neg c]; rfl
    · obtain ⟨q1, q2, q3⟩ := z2 q
      obtain ⟨p1, p2, p3⟩ := iff1.mp q1
      have same : ∀ y, hI U 36 y = hI T 36 y ∧ hI U 37 y = hI T 37 y := fun y => by
        rw [u6, u7]
        by_cases c : y = k
        · subst c
          rw [if_pos rfl, if_pos rfl]
          exact ⟨p2, p3⟩
        · rw [if_neg c, if_neg c]
          exact ⟨rfl, rfl⟩
      refine ⟨p1, fun y hy => ⟨(q2 y hy).1.trans (same y).1, (q2 y hy).2.trans (same y).2⟩, fun y h1 h2 => ?_⟩
      by_cases c : y = k
      · subst c
        have l6 : layF G (hI T' 36) y = layF G (hI T 36) y := layF_lo _ _ _ h2 (fun j hj => by
          have lf := (gi.fv h2 hj).2
          exact (q2 _ lf).1.trans (same _).1)
        have l7 : lvF G (hI T' 37) y = lvF G (hI T 37) y := lvF_lo _ _ _ h2 (fun j hj => by
          have lf := (gi.fv h2 hj).2
          exact (q2 _ lf).2.trans (same _).2)
        rw [l6, l7, (q2 y h2).1, (q2 y h2).2, (same y).1, (same y).2]
        exact ⟨p2, p3⟩
      · exact q3 y (by omega) h2
    · obtain ⟨f1, f2⟩ := fr (fun j hj => q1 _ (gi.fv hkm hj).2)
      have m0 : mo1 = 0 := iff1.mpr ⟨q2, f1.trans (q1 k hkm).1.symm, f2.trans (q1 k hkm).2.symm⟩
      refine w2 (fun y hy => ?_) m0
      unfold Rt
      rw [u6, u7]
      by_cases c : y = k
      · subst c
        rw [if_pos rfl, if_pos rfl]
        exact ⟨f1, f2⟩
      · rw [if_neg c, if_neg c]
        exact q1 y hy
theorem measure_32 (h : Fix S) (g : Ag G S) (gi : GI G) {rk : Nat → Nat} (r1 : ∀ i : Nat, (i : Int) < G 14 1 → rk i ≤ 23) (r2 : ∀ i k : Nat, (i : Int) < G 14 1 → (k : Int) < G 18 i → rk (fo G i k) < rk i) : ∀ (d t fu : Nat) (T : AS), t + d = 24 → d + 2 < fu → A67 S T → Sn G rk T → (∀ y : Nat, (y : Int) < G 14 1 → rk y < t → Rt G T y) → ∃ T', f_X6_measure_32 fu (some 14) 1 T = some ((0, 0, none), T') ∧ A67 S T' ∧ ∀ y : Nat, (y : Int) < G 14 1 → Rt G T' y := by
  have l0 := gi.1
  intro d
  induction d with
  | zero =>
    intro t fu T ht hf a sn ri
    obtain ⟨fu, rfl⟩ : ∃ z, fu = z + 1 := ⟨fu - 1, by omega⟩
    obtain ⟨fu, rfl⟩ : ∃ z, fu = z + 1 := ⟨fu - 1, by omega⟩
    obtain ⟨T', mo', e2, a2, sn2, hm2, ri2, z2, w2⟩ := measure_40 h g gi r1 r2 t (f_X6_measure_32 (fu + 1)) (G 14 1).toNat 0 FU T 0 (by omega) (FU_gt (by omega)) a sn (Or.inl rfl) (fun y hy q => ri y hy (by omega))
    have m0 := w2 (fun y hy => ri y hy (by have := r1 y hy; omega)) rfl
    refine ⟨T', ?_, a2, fun y hy => ri2 y hy (by have := r1 y hy; omega)⟩
    conv => lhs; unfold f_X6_measure_32
    rw [if_neg (by decide)]
    refine Eq.trans e2 ?_
    rw [m0]
    unfold f_X6_measure_32
    rw [if_pos rfl, rV_s]
  | succ d ih =>
    intro t fu T ht hf a sn ri
    obtain ⟨fu, rfl⟩ : ∃ z, fu = z + 1 := ⟨fu - 1, by omega⟩
    obtain ⟨T', mo', e2, a2, sn2, hm2, ri2, z2, w2⟩ := measure_40 h g gi r1 r2 t (f_X6_measure_32 fu) (G 14 1).toNat 0 FU T 0 (by omega) (FU_gt (by omega)) a sn (Or.inl rfl) (fun y hy q => ri y hy (by omega))
    have e3 : f_X6_measure_32 (fu + 1) (some 14) 1 T = f_X6_measure_32 fu (some 14) mo' T' := by
      conv => lhs; unfold f_X6_measure_32
      rw [if_neg (by decide)]
      exact e2
    rcases hm2 with m0 | m1
    · obtain ⟨-, q2, q3⟩ := z2 m0
      obtain ⟨fu, rfl⟩ : ∃ z, fu = z + 1 := ⟨fu - 1, by omega⟩
      refine ⟨T', ?_, a2, fun y hy => ⟨fxp_un gi layF_lo (f := hI T' 36) (fun x hx => (q3 x (Nat.zero_le _) hx).1.symm) y hy, fxp_un gi lvF_lo (f := hI T' 37) (fun x hx => (q3 x (Nat.zero_le _) hx).2.symm) y hy⟩⟩
      rw [e3, m0]
      unfold f_X6_measure_32
      rw [if_pos rfl, rV_s]
    · rw [e3, m1]
      exact ih (t + 1) fu T' (by omega) (by omega) a2 sn2 ri2
theorem measure_2 (h : Fix S) (g : Ag G S) (gi : GI G) : ∀ (d k fu : Nat) (T : AS), (G 14 1).toNat = k + d → d < fu → A67 S T → (∀ y : Nat, y < k → hI T 36 y = 0 ∧ hI T 37 y = 1) → ∃ T', f_X6_measure_2 fu (some 14) k T = some ((0, 0, none), T') ∧ A67 S T' ∧ ∀ y : Nat, (y : Int) < G 14 1 → Rt G T' y := by
  have l0 := gi.1
  obtain ⟨rk, r1, r2⟩ := gi.rank
  intro d
  induction d with
  | zero =>
    intro k fu T hk hf a hy
    obtain ⟨fu, rfl⟩ : ∃ z, fu = z + 1 := ⟨fu - 1, by omega⟩
    obtain ⟨fT, gT, -, -⟩ := a.ok h g
    obtain ⟨T', e, a2, r⟩ := measure_32 h g gi r1 r2 24 0 FU T rfl (FU_gt (by decide)) a (fun y h2 => by
      have := hy y (by omega)
      omega) (fun y _ q => by omega)
    refine ⟨T', ?_, a2, r⟩
    unfold f_X6_measure_2
    rw [mg_1 fT gT, Option.bind_some, if_pos (by omega)]
    exact e
  | succ d ih =>
    intro k fu T hk hf a hy
    obtain ⟨fu, rfl⟩ : ∃ z, fu = z + 1 := ⟨fu - 1, by omega⟩
    obtain ⟨fT, gT, -, -⟩ := a.ok h g
    have f2 := fT.wI 36 k 0
    obtain ⟨T', e, a2, r⟩ := ih (k + 1) fu (wI (wI T 36 k 0) 37 k 1) (by omega) (by omega) ((a.w (Or.inl rfl) _ _).w (Or.inr rfl) _ _) (fun y h2 => by
      by_cases c : y = k
      · subst c
        rw [hI_w0, hI_wI, if_neg (by omega), hI_w0]
        exact ⟨rfl, rfl⟩
      · rw [hI_wI, if_neg (by omega), hI_wI, if_neg (by omega), hI_wI, if_neg (by omega), hI_wI, if_neg (by omega)]
        exact hy y (by omega))
    refine ⟨T', ?_, a2, r⟩
    conv => lhs; unfold f_X6_measure_2
    rw [mg_1 fT gT, Option.bind_some, if_neg (by omega), fr_14_26 fT, Option.bind_some, fs_36 fT _ (by omega) (by omega), Option.bind_some, tn, fr_14_27 f2, Option.bind_some, fs_37 f2 _ (by omega) (by omega), Option.bind_some, tn, chk_ok (by omega) (by omega), Option.bind_some]
    exact e
theorem measure_eq (h : Fix S) (g : Ag G S) (gi : GI G) : ∃ T', f_X6_measure (some 14) S = some ((0, 0, none), T') ∧ A67 S T' ∧ ∀ y : Nat, (y : Int) < G 14 1 → Rt G T' y :=
  measure_2 h g gi (G 14 1).toNat 0 FU S (by omega) (FU_gt (by have := gi.1; omega)) (A67.rfl' S) (fun y hy => absurd hy (Nat.not_lt_zero _))
theorem m_count (h : Fix S) (g : Ag G S) (gi : GI G) (x y : Int) : (¬ ((0 ≤ x ∧ x < G 14 1) ∧ 0 ≤ y ∧ y < 6) → MO S (f_X6_count (some 14) x y S) 1 0 G) ∧ ((0 ≤ x ∧ x < G 14 1) ∧ 0 ≤ y ∧ y < 6 → MO S (f_X6_count (some 14) x y S) 0 (cov G x.toNat y) G) := by
  have bad : f_X6_count_26 (some 14) x y 1 (some 14) S = some ((0, 0, none), wI S 14 0 1) := by
    unfold f_X6_count_26
    rw [fk_14 h, gd_1, refused_i h, cI_s, if_neg (by decide), rI_s]
  refine ⟨fun q => MO.th g ?_, fun q => ?_⟩
  · unfold f_X6_count f_X6_count_21
    rw [mg_1 h g, Option.bind_some, isIn_eq, cI_s]
    by_cases c : 0 ≤ x ∧ x < G 14 1
    · rw [Bo_t c, if_neg (by decide), isIn_f (fun z => q ⟨c, z⟩), cI_s, if_pos rfl, bad]
    · rw [Bo_f c, if_pos rfl, bad]
  · obtain ⟨n, rfl⟩ : ∃ n : Nat, x = n := ⟨x.toNat, by omega⟩
    rw [tn]
    have hn9 : (n : Int) < G 14 1 := q.1.2
    have ln9 := gi.lt hn9
    have h1 := h.wI 14 0 0
    have g1 : Ag G (wI S 14 0 0) := g.w1 kor_0
    obtain ⟨T, e, a, r⟩ := measure_eq h1 g1 gi
    obtain ⟨fT, gT, mT, tT⟩ := a.ok h1 g1
    obtain ⟨r6, r7⟩ := r n hn9
    refine ⟨T, ?_, (MF.w1 S 0 0 (by decide) (by decide)).tr mT, by rw [tT, hI_w0], gT⟩
    unfold f_X6_count
    rw [mg_1 h g, Option.bind_some, isIn_t q.1, cI_s, if_neg (by decide), isIn_t q.2, cI_s, if_neg (by decide)]
    unfold f_X6_count_26
    rw [fk_14 h, gd_1, refused_n h, cI_s, if_pos rfl, fk_14 h1, gd_1, e, cV_s]
    unfold cov
    by_cases c0 : y = 0
    · rw [if_pos c0, if_pos c0, fr_14_2 fT, Option.bind_some, ma_15 fT gT (by omega) (by omega), Option.bind_some, tn, rI_s]
    · rw [if_neg c0, if_neg c0]
      by_cases c1 : y = 1
      · rw [if_pos c1, if_pos c1, fr_14_5 fT, Option.bind_some, ma_18 fT gT (by omega) (by omega), Option.bind_some, tn, rI_s]
      · rw [if_neg c1, if_neg c1]
        by_cases c2 : y = 2
        · rw [if_pos c2, if_pos c2, fr_14_7 fT, Option.bind_some, ma_20 fT gT (by omega) (by omega), Option.bind_some, tn, rI_s]
        · rw [if_neg c2, if_neg c2]
          by_cases c3 : y = 3
          · rw [if_pos c3, if_pos c3, fk_14 fT, gd_1, ownPins_eq fT gT ln9 (gi.pw hn9), cI_s, rI_s]
          · rw [if_neg c3, if_neg c3]
            by_cases c4 : y = 4
            · rw [if_pos c4, if_pos c4, fr_14_26 fT, Option.bind_some, fa_36 fT (by omega) (by omega), Option.bind_some, tn, rI_s, r6]
            · rw [if_neg c4, if_neg c4, fr_14_27 fT, Option.bind_some, fa_37 fT (by omega) (by omega), Option.bind_some, tn, rI_s, r7]
end
