/-! what is counted over the modules below: one value that repeats itself -/
variable {sh ins : Nat → Nat} {pl nt wy : Nat → Nat → Nat} {tg : Nat → Nat × Nat}
section
variable {G : Nat → Nat → Int} {S : AS}
def fxp (F : (Nat → Int) → Nat → Int) : Nat → Nat → Int
  | 0, _ => 0
  | n + 1, x => F (fxp F n) x
def Loc (G : Nat → Nat → Int) (F : (Nat → Int) → Nat → Int) : Prop := ∀ (f g : Nat → Int) (x : Nat), (x : Int) < G 14 1 → (∀ k : Nat, (k : Int) < G 18 x → f (fo G x k) = g (fo G x k)) → F f x = F g x
theorem fxp_st (gi : GI G) {F : (Nat → Int) → Nat → Int} (lo : Loc G F) {rk : Nat → Nat} (r2 : ∀ i k : Nat, (i : Int) < G 14 1 → (k : Int) < G 18 i → rk (fo G i k) < rk i) : ∀ n m x : Nat, (x : Int) < G 14 1 → rk x < n → rk x < m → fxp F n x = fxp F m x := by
  intro n
  induction n with
  | zero => intro m x _ h; omega
  | succ n ih =>
    intro m x hx h1 h2
    obtain ⟨m, rfl⟩ : ∃ z, m = z + 1 := ⟨m - 1, by omega⟩
    refine lo _ _ x hx (fun k hk => ?_)
    have := r2 x k hx hk
    exact ih m _ (gi.fv hx hk).2 (by omega) (by omega)
theorem fxp_at (gi : GI G) {F : (Nat → Int) → Nat → Int} (lo : Loc G F) {x : Nat} (hx : (x : Int) < G 14 1) : fxp F 24 x = F (fxp F 24) x := by
  obtain ⟨rk, r1, r2⟩ := gi.rank
  refine lo _ _ x hx (fun k hk => ?_)
  have := r2 x k hx hk
  have := r1 x hx
  exact fxp_st gi lo r2 23 24 _ (gi.fv hx hk).2 (by omega) (by omega)
theorem fxp_un (gi : GI G) {F : (Nat → Int) → Nat → Int} (lo : Loc G F) {f : Nat → Int} (hf : ∀ x : Nat, (x : Int) < G 14 1 → f x = F f x) : ∀ x : Nat, (x : Int) < G 14 1 → f x = fxp F 24 x := by
  obtain ⟨rk, r1, r2⟩ := gi.rank
  have : ∀ n x : Nat, (x : Int) < G 14 1 → rk x < n → f x = fxp F 24 x := by
    intro n
    induction n with
    | zero => intro x _ h; omega
    | succ n ih =>
      intro x hx h
      rw [hf x hx, fxp_at gi lo hx]
      refine lo _ _ x hx (fun k hk => ?_)
      have := r2 x k hx hk
      exact ih _ (gi.fv hx hk).2 (by omega)
  exact fun x hx => this (rk x + 1) x hx (by omega)
/-- layers -/
def mxs (G : Nat → Nat → Int) (f : Nat → Int) (x : Nat) : Nat → Int
  | 0 => 0
  | k + 1 => if mxs G f x k < 1 + f (fo G x k) then 1 + f (fo G x k) else mxs G f x k
/-- leaves -/
def lsm (G : Nat → Nat → Int) (f : Nat → Int) (x : Nat) : Nat → Int
  | 0 => if G 18 x = 0 then 1 else 0
  | k + 1 => lsm G f x k + f (fo G x k)
/-- nets -/
def nsm (G : Nat → Nat → Int) (f : Nat → Int) (x : Nat) : Nat → Int
  | 0 => G 20 x
  | k + 1 => nsm G f x k + (if G 18 (fo G x k) = 0 then 0 else f (fo G x k))
def layF (G : Nat → Nat → Int) (f : Nat → Int) (x : Nat) : Int := mxs G f x (G 18 x).toNat
def lvF (G : Nat → Nat → Int) (f : Nat → Int) (x : Nat) : Int := if 1000000 < lsm G f x (G 18 x).toNat then 1000000 else lsm G f x (G 18 x).toNat
def ntF (G : Nat → Nat → Int) (f : Nat → Int) (x : Nat) : Int := if 3001 < nsm G f x (G 18 x).toNat then 3001 else nsm G f x (G 18 x).toNat
theorem mxs_lo {f g : Nat → Int} {x : Nat} : ∀ k : Nat, (∀ j : Nat, j < k → f (fo G x j) = g (fo G x j)) → mxs G f x k = mxs G g x k := by
  intro k
  induction k with
  | zero => intro _; rfl
  | succ k ih => intro h; simp only [mxs]; rw [ih (fun j hj => h j (by omega)), h k (by omega)]
theorem lsm_lo {f g : Nat → Int} {x : Nat} : ∀ k : Nat, (∀ j : Nat, j < k → f (fo G x j) = g (fo G x j)) → lsm G f x k = lsm G g x k := by
  intro k
  induction k with
  | zero => intro _; rfl
  | succ k ih => intro h; simp only [lsm]; rw [ih (fun j hj => h j (by omega)), h k (by omega)]
theorem nsm_lo {f g : Nat → Int} {x : Nat} : ∀ k : Nat, (∀ j : Nat, j < k → f (fo G x j) = g (fo G x j)) → nsm G f x k = nsm G g x k := by
  intro k
  induction k with
  | zero => intro _; rfl
  | succ k ih => intro h; simp only [nsm]; rw [ih (fun j hj => h j (by omega)), h k (by omega)]
theorem layF_lo : Loc G (layF G) := fun f g x _ h => mxs_lo _ (fun j hj => h j (by omega))
theorem lvF_lo : Loc G (lvF G) := fun f g x _ h => by unfold lvF; rw [lsm_lo _ (fun j hj => h j (by omega))]
theorem ntF_lo : Loc G (ntF G) := fun f g x _ h => by unfold ntF; rw [nsm_lo _ (fun j hj => h j (by omega))]
noncomputable def lay (G : Nat → Nat → Int) : Nat → Int := fxp (layF G) 24
noncomputable def lv (G : Nat → Nat → Int) : Nat → Int := fxp (lvF G) 24
noncomputable def nto (G : Nat → Nat → Int) : Nat → Int := fxp (ntF G) 24
theorem mxs_b {f : Nat → Int} {x : Nat} {B : Int} (hB : 0 ≤ B) : ∀ k : Nat, (∀ j : Nat, j < k → 0 ≤ f (fo G x j) ∧ f (fo G x j) + 1 ≤ B) → 0 ≤ mxs G f x k ∧ mxs G f x k ≤ B := by
  intro k
  induction k with
  | zero => intro _; exact ⟨Int.le_refl _, hB⟩
  | succ k ih =>
    intro h
    have := ih (fun j hj => h j (by omega))
    have := h k (by omega)
    simp only [mxs]
    split <;> omega
theorem lsm_b {f : Nat → Int} {x : Nat} {B : Int} (hB : 1 ≤ B) : ∀ k : Nat, (∀ j : Nat, j < k → 0 ≤ f (fo G x j) ∧ f (fo G x j) ≤ B) → 0 ≤ lsm G f x k ∧ lsm G f x k ≤ B * (k + 1) := by
  intro k
  induction k with
  | zero => intro _; simp only [lsm]; split <;> omega
  | succ k ih =>
    intro h
    have := ih (fun j hj => h j (by omega))
    have := h k (by omega)
    simp only [lsm]
    have e : B * (((k + 1 : Nat) : Int) + 1) = B * ((k : Int) + 1) + B := by rw [Int.natCast_add, Int.mul_add B ((k : Int) + ((1 : Nat) : Int)) 1]; simp
    omega
theorem nsm_b {f : Nat → Int} {x : Nat} {B : Int} (hB : 0 ≤ B) (h0 : 0 ≤ G 20 x ∧ G 20 x ≤ 128) : ∀ k : Nat, (∀ j : Nat, j < k → 0 ≤ f (fo G x j) ∧ f (fo G x j) ≤ B) → 0 ≤ nsm G f x k ∧ nsm G f x k ≤ 128 + B * k := by
  intro k
  induction k with
  | zero => intro _; simp only [nsm]; omega
  | succ k ih =>
    intro h
    have := ih (fun j hj => h j (by omega))
    have := h k (by omega)
    simp only [nsm]
    have e : B * ((k + 1 : Nat) : Int) = B * (k : Int) + B := by rw [Int.natCast_add, Int.mul_add]; simp
    split <;> omega
theorem lay_b : ∀ (n x : Nat), 0 ≤ fxp (layF G) n x ∧ fxp (layF G) n x ≤ n := by
  intro n
  induction n with
  | zero => intro x; exact ⟨Int.le_refl _, Int.le_refl _⟩
  | succ n ih => intro x; exact mxs_b (by omega) _ (fun j _ => by have := ih (fo G x j); omega)
theorem lvF_b {f : Nat → Int} {x : Nat} (h : ∀ j : Nat, (j : Int) < G 18 x → 0 ≤ f (fo G x j) ∧ f (fo G x j) ≤ 1000000) : 0 ≤ lvF G f x ∧ lvF G f x ≤ 1000000 := by
  have := (lsm_b (G := G) (f := f) (x := x) (B := 1000000) (by decide) (G 18 x).toNat (fun j hj => h j (by omega))).1
  unfold lvF
  split <;> omega
theorem lv_b : ∀ (n x : Nat), 0 ≤ fxp (lvF G) n x ∧ fxp (lvF G) n x ≤ 1000000 := by
  intro n
  induction n with
  | zero => intro x; show (0 : Int) ≤ 0 ∧ (0 : Int) ≤ 1000000; omega
  | succ n ih => intro x; exact lvF_b (fun j _ => ih _)
theorem nto_b (gi : GI G) {x : Nat} (hx : (x : Int) < G 14 1) : 0 ≤ nto G x ∧ nto G x ≤ 3001 := by
  obtain ⟨rk, r1, r2⟩ := gi.rank
  have : ∀ n x : Nat, (x : Int) < G 14 1 → rk x < n → 0 ≤ nto G x ∧ nto G x ≤ 3001 := by
    intro n
    induction n with
    | zero => intro x _ h; omega
    | succ n ih =>
      intro x hx h
      have e : nto G x = ntF G (nto G) x := fxp_at gi ntF_lo hx
      have := (nsm_b (G := G) (f := nto G) (x := x) (B := 3001) (by decide) (gi.nn hx) (G 18 x).toNat (fun j hj => by
        have := r2 x j hx (by omega)
        exact ih _ (gi.fv hx (by omega)).2 (by omega))).1
      rw [e]
      unfold ntF
      split <;> omega
  exact this (rk x + 1) x hx (by omega)
/-! the class -/
theorem isLeaf_eq (C : Cls sh ins pl nt wy tg G S) {i : Nat} (hi : (i : Int) < G 14 1) : f_X0_isLeaf (some (ins i)) S = some ((0, Bo (G 18 i = 0), none), S) := by
  unfold f_X0_isLeaf
  rw [c_a2 C hi, Option.bind_some]
  by_cases c : G 18 i = 0
  · rw [if_pos c, Bo_t c, rZ_1]
  · rw [if_neg c, Bo_f c, rZ_0]
/-- where the order stands: row, and numbers that are bounded -/
def OT (sh : Nat → Nat) (S T : AS) (L : List Nat) : Prop := Sc S T ∧ hI T 2 2 = (L.length : Int) ∧ ∀ p, (hp : p < L.length) → hR T 3 p = some (sh L[p])
theorem OT.w {T : AS} {L : List Nat} (h : OT sh S T L) (k : Nat) (v : Int) : OT sh S (wI T 11 k v) L := ⟨h.1.tr (Sc.w1 T _ _ (by decide) (by decide)), by rw [hI_wI, if_neg (by omega)]; exact h.2.1, h.2.2⟩
theorem layers_37 (C : Cls sh ins pl nt wy tg G S) (hs : Stt S) (gi : GI G) {L : List Nat} (hL : ∀ y, y ∈ L → (y : Int) < G 14 1) (h24 : L.length ≤ 24) {t : Nat} (k7 : Option Nat → Option Nat → Int → AS → Option RS) {T : AS} (ot : OT sh S T L) {p : Nat} (hp : p < L.length) (hv : ∀ k : Nat, (k : Int) < G 18 L[p] → 0 ≤ hI T 11 (fo G L[p] k) ∧ hI T 11 (fo G L[p] k) ≤ 24) : ∀ (d k fu : Nat), (G 18 L[p]).toNat = k + d → d < fu → f_X5_layersBelow_37 fu k7 (some 0) (some (sh t)) p (some (ins L[p])) (mxs G (hI T 11) L[p] k) k T = k7 (some 0) (some (sh t)) ((p : Int) + 1) (wI T 11 L[p] (layF G (hI T 11) L[p])) := by
  have hx := hL _ (List.getElem_mem hp)
  have hT := ot.1.stt hs
  have CT := C.kp ot.1.kp
  have ni := gi.ni hx
  have lx := gi.lt hx
  intro d
  induction d with
  | zero =>
    intro k fu hk hf
    obtain ⟨fu, rfl⟩ : ∃ z, fu = z + 1 := ⟨fu - 1, by omega⟩
    unfold f_X5_layersBelow_37
    rw [c_a2 CT hx, Option.bind_some, if_pos (by omega), fr_0_4 hT.1, Option.bind_some, fr_0_2 hT.1, Option.bind_some, fr_2_0 hT.1, Option.bind_some, fa_3 hT.1 (by omega) (by omega), Option.bind_some, tn, ot.2.2 p hp, c_i0 CT hx, Option.bind_some, fs_11 hT.1 _ (by omega) (by omega), Option.bind_some, chk_ok (by omega) (by omega), Option.bind_some, tn]
    unfold layF
    rw [show (G 18 L[p]).toNat = k by omega]
  | succ d ih =>
    intro k fu hk hf
    obtain ⟨fu, rfl⟩ : ∃ z, fu = z + 1 := ⟨fu - 1, by omega⟩
    have hkx : (k : Int) < G 18 L[p] := by omega
    have lf := (gi.fv hx hkx).2
    have l24 := gi.lt lf
    have b := hv k hkx
    have mb := mxs_b (G := G) (f := hI T 11) (x := L[p]) (B := 25) (by decide) k (fun j hj => by have := hv j (by omega); omega)
    conv => lhs; unfold f_X5_layersBelow_37
    rw [c_a2 CT hx, Option.bind_some, if_neg (by omega), fr_0_4 hT.1, Option.bind_some, c_a1 CT hx, Option.bind_some, c_pl CT gi hx hkx, Option.bind_some, c_p0 CT hx hkx, Option.bind_some, c_i0 CT lf, Option.bind_some, fa_11 hT.1 (by omega) (by omega), Option.bind_some, tn, chk_ok (by omega) (by omega), Option.bind_some, Option.bind_some, chk_ok (by omega) (by omega), Option.bind_some]
    exact ih (k + 1) fu (by omega) (by omega)
theorem leaves_48 (C : Cls sh ins pl nt wy tg G S) (hs : Stt S) (gi : GI G) {L : List Nat} (hL : ∀ y, y ∈ L → (y : Int) < G 14 1) (h24 : L.length ≤ 24) {t : Nat} (k7 : Option Nat → Option Nat → Int → AS → Option RS) {T : AS} (ot : OT sh S T L) {p : Nat} (hp : p < L.length) (hv : ∀ k : Nat, (k : Int) < G 18 L[p] → 0 ≤ hI T 11 (fo G L[p] k) ∧ hI T 11 (fo G L[p] k) ≤ 1000000) : ∀ (d k fu : Nat), (G 18 L[p]).toNat = k + d → d < fu → f_X5_leavesIn_48 fu k7 (some 0) (some (sh t)) p (some (ins L[p])) (lsm G (hI T 11) L[p] k) k T = k7 (some 0) (some (sh t)) ((p : Int) + 1) (wI T 11 L[p] (lvF G (hI T 11) L[p])) := by
  have hx := hL _ (List.getElem_mem hp)
  have hT := ot.1.stt hs
  have CT := C.kp ot.1.kp
  have ni := gi.ni hx
  have lx := gi.lt hx
  intro d
  induction d with
  | zero =>
    intro k fu hk hf
    obtain ⟨fu, rfl⟩ : ∃ z, fu = z + 1 := ⟨fu - 1, by omega⟩
    unfold f_X5_leavesIn_48
    rw [c_a2 CT hx, Option.bind_some, if_pos (by omega), fr_0_4 hT.1, Option.bind_some, fr_0_2 hT.1, Option.bind_some, fr_2_0 hT.1, Option.bind_some, fa_3 hT.1 (by omega) (by omega), Option.bind_some, tn, ot.2.2 p hp, c_i0 CT hx, Option.bind_some, Option.bind_some, fs_11 hT.1 _ (by omega) (by omega), Option.bind_some, chk_ok (by omega) (by omega), Option.bind_some, tn]
    unfold lvF
    rw [show (G 18 L[p]).toNat = k by omega]
  | succ d ih =>
    intro k fu hk hf
    obtain ⟨fu, rfl⟩ : ∃ z, fu = z + 1 := ⟨fu - 1, by omega⟩
    have hkx : (k : Int) < G 18 L[p] := by omega
    have lf := (gi.fv hx hkx).2
    have l24 := gi.lt lf
    have b := hv k hkx
    have mb := lsm_b (G := G) (f := hI T 11) (x := L[p]) (B := 1000000) (by decide) k (fun j hj => hv j (by omega))
    conv => lhs; unfold f_X5_leavesIn_48
    rw [c_a2 CT hx, Option.bind_some, if_neg (by omega), fr_0_4 hT.1, Option.bind_some, c_a1 CT hx, Option.bind_some, c_pl CT gi hx hkx, Option.bind_some, c_p0 CT hx hkx, Option.bind_some, c_i0 CT lf, Option.bind_some, fa_11 hT.1 (by omega) (by omega), Option.bind_some, tn, chk_ok (by omega) (by omega), Option.bind_some, chk_ok (by omega) (by omega), Option.bind_some]
    exact ih (k + 1) fu (by omega) (by omega)
theorem nets_40 (C : Cls sh ins pl nt wy tg G S) (hs : Stt S) (gi : GI G) {L : List Nat} (hL : ∀ y, y ∈ L → (y : Int) < G 14 1) (h24 : L.length ≤ 24) {t : Nat} (k7 : Option Nat → Option Nat → Int → AS → Option RS) {T : AS} (ot : OT sh S T L) {p : Nat} (hp : p < L.length) (hv : ∀ k : Nat, (k : Int) < G 18 L[p] → 0 ≤ hI T 11 (fo G L[p] k) ∧ hI T 11 (fo G L[p] k) ≤ 3001) : ∀ (d k fu : Nat), (G 18 L[p]).toNat = k + d → d < fu → f_X5_netsOfOccurrences_40 fu k7 (some 0) (some (sh t)) p (some (ins L[p])) (nsm G (hI T 11) L[p] k) k T = k7 (some 0) (some (sh t)) ((p : Int) + 1) (wI T 11 L[p] (ntF G (hI T 11) L[p])) := by
  have hx := hL _ (List.getElem_mem hp)
  have hT := ot.1.stt hs
  have CT := C.kp ot.1.kp
  have ni := gi.ni hx
  have nn := gi.nn hx
  have lx := gi.lt hx
  intro d
  induction d with
  | zero =>
    intro k fu hk hf
    obtain ⟨fu, rfl⟩ : ∃ z, fu = z + 1 := ⟨fu - 1, by omega⟩
    unfold f_X5_netsOfOccurrences_40
    rw [c_a2 CT hx, Option.bind_some, if_pos (by omega), fr_0_4 hT.1, Option.bind_some, fr_0_2 hT.1, Option.bind_some, fr_2_0 hT.1, Option.bind_some, fa_3 hT.1 (by omega) (by omega), Option.bind_some, tn, ot.2.2 p hp, c_i0 CT hx, Option.bind_some, Option.bind_some, fs_11 hT.1 _ (by omega) (by omega), Option.bind_some, chk_ok (by omega) (by omega), Option.bind_some, tn]
    unfold ntF
    rw [show (G 18 L[p]).toNat = k by omega]
  | succ d ih =>
    intro k fu hk hf
    obtain ⟨fu, rfl⟩ : ∃ z, fu = z + 1 := ⟨fu - 1, by omega⟩
    have hkx : (k : Int) < G 18 L[p] := by omega
    have lf := (gi.fv hx hkx).2
    have l24 := gi.lt lf
    have b := hv k hkx
    have mb := nsm_b (G := G) (f := hI T 11) (x := L[p]) (B := 3001) (by decide) nn k (fun j hj => hv j (by omega))
    have st : ∀ z : Int, z = (if G 18 (fo G L[p] k) = 0 then 0 else hI T 11 (fo G L[p] k)) → f_X5_netsOfOccurrences_88 k7 (f_X5_netsOfOccurrences_40 fu k7) (some 0) (some (sh t)) p (some (ins L[p])) k z (nsm G (hI T 11) L[p] k) T = f_X5_netsOfOccurrences_40 fu k7 (some 0) (some (sh t)) p (some (ins L[p])) (nsm G (hI T 11) L[p] (k + 1)) ((k + 1 : Nat) : Int) T := fun z hz => by
      have zb : 0 ≤ z ∧ z ≤ 3001 := by rw [hz]; split <;> omega
      unfold f_X5_netsOfOccurrences_88
      rw [chk_ok (by omega) (by omega), Option.bind_some, chk_ok (by omega) (by omega), Option.bind_some]
      simp only [nsm]
      rw [hz]
      rfl
    have e0 : f_X5_netsOfOccurrences_40 (fu + 1) k7 (some 0) (some (sh t)) p (some (ins L[p])) (nsm G (hI T 11) L[p] k) k T = f_X5_netsOfOccurrences_40 fu k7 (some 0) (some (sh t)) p (some (ins L[p])) (nsm G (hI T 11) L[p] (k + 1)) ((k + 1 : Nat) : Int) T := by
      conv => lhs; unfold f_X5_netsOfOccurrences_40
      rw [c_a2 CT hx, Option.bind_some, if_neg (by omega), c_a1 CT hx, Option.bind_some, c_pl CT gi hx hkx, Option.bind_some, c_p0 CT hx hkx, Option.bind_some, c_in CT lf, Option.bind_some, c_k1 CT lf, gd_1, isLeaf_eq CT lf, cI_s]
      by_cases c : G 18 (fo G L[p] k) = 0
      · rw [if_neg (by rw [Bo_t c]; decide), st 0 (by rw [if_pos c])]
      · rw [if_pos (by rw [Bo_f c]), fr_0_4 hT.1, Option.bind_some, c_i0 CT lf, Option.bind_some, fa_11 hT.1 (by omega) (by omega), Option.bind_some, tn, st _ (by rw [if_neg c])]
    rw [e0]
    exact ih (k + 1) fu (by omega) (by omega)
/-- what the outer loop keeps -/
def MV (sh : Nat → Nat) (S T : AS) (L : List Nat) (v : Nat → Int) (p : Nat) : Prop := OT sh S T L ∧ ∀ q, (hq : q < L.length) → q < p → hI T 11 L[q] = v L[q]
theorem MV.kid {L : List Nat} (hB : Bh G L) {T : AS} {v : Nat → Int} {p : Nat} (m : MV sh S T L v p) (hp : p < L.length) : ∀ k : Nat, (k : Int) < G 18 L[p] → hI T 11 (fo G L[p] k) = v (fo G L[p] k) := by
  intro k hk
  obtain ⟨q, hq, h1, h2⟩ := hB p hp k hk
  rw [← h2]
  exact m.2 q hq h1
theorem MV.nx {L : List Nat} {T : AS} {v : Nat → Int} {p : Nat} {z : Int} (m : MV sh S T L v p) (hp : p < L.length) (hz : z = v L[p]) : MV sh S (wI T 11 L[p] z) L v (p + 1) := by
  refine ⟨m.1.w _ _, fun q hq h => ?_⟩
  rw [hI_wI]
  by_cases c : L[q] = L[p]
  · rw [if_pos ⟨rfl, c⟩, hz, c]
  · rw [if_neg (by omega)]
    refine m.2 q hq ?_
    by_cases d : q = p
    · subst d; exact absurd rfl c
    · omega
theorem layers_7 (C : Cls sh ins pl nt wy tg G S) (hs : Stt S) (gi : GI G) {L : List Nat} (hL : ∀ y, y ∈ L → (y : Int) < G 14 1) (h24 : L.length ≤ 24) (hB : Bh G L) {t : Nat} (ht : t ∈ L) : ∀ (d p fu : Nat) (T : AS), L.length = p + d → d < fu → MV sh S T L (lay G) p → ∃ T', f_X5_layersBelow_7 fu (some 0) (some (sh t)) p T = some ((0, lay G t, none), T') ∧ Sc S T' := by
  have htm := hL t ht
  have lt := gi.lt htm
  intro d
  induction d with
  | zero =>
    intro p fu T hp hf m
    obtain ⟨fu, rfl⟩ : ∃ z, fu = z + 1 := ⟨fu - 1, by omega⟩
    have hT := m.1.1.stt hs
    have CT := C.kp m.1.1.kp
    refine ⟨T, ?_, m.1.1⟩
    unfold f_X5_layersBelow_7
    obtain ⟨q, hq, e⟩ := List.getElem_of_mem ht
    rw [fr_0_2 hT.1, Option.bind_some, fg_2 hT.1, Option.bind_some, m.1.2.1, if_pos (by omega), fr_0_4 hT.1, Option.bind_some, c_i0 CT htm, Option.bind_some, fa_11 hT.1 (by omega) (by omega), Option.bind_some, tn, rI_s]
    have := m.2 q hq (by omega)
    rw [e] at this
    rw [this]
  | succ d ih =>
    intro p fu T hp hf m
    obtain ⟨fu, rfl⟩ : ∃ z, fu = z + 1 := ⟨fu - 1, by omega⟩
    have hpl : p < L.length := by omega
    have hx := hL _ (List.getElem_mem hpl)
    have hT := m.1.1.stt hs
    have CT := C.kp m.1.1.kp
    have kid := m.kid hB hpl
    have e1 := layers_37 C hs gi hL h24 (t := t) (f_X5_layersBelow_7 fu) m.1 hpl (fun k hk => by
      rw [kid k hk]
      exact lay_b 24 _) (G 18 L[p]).toNat 0 FU (by omega) (FU_gt (by have := gi.ni hx; omega))
    have ev : layF G (hI T 11) L[p] = lay G L[p] := (layF_lo _ _ _ hx kid).trans (fxp_at gi layF_lo hx).symm
    obtain ⟨T', e2, s2⟩ := ih (p + 1) fu _ (by omega) (by omega) (m.nx hpl ev)
    refine ⟨T', ?_, s2⟩
    conv => lhs; unfold f_X5_layersBelow_7
    rw [fr_0_2 hT.1, Option.bind_some, fg_2 hT.1, Option.bind_some, m.1.2.1, if_neg (by omega), Option.bind_some, fr_2_0 hT.1, Option.bind_some, fa_3 hT.1 (by omega) (by omega), Option.bind_some, tn, m.1.2.2 p hpl, c_in CT hx, Option.bind_some]
    exact e1.trans e2
theorem leaves_7 (C : Cls sh ins pl nt wy tg G S) (hs : Stt S) (gi : GI G) {L : List Nat} (hL : ∀ y, y ∈ L → (y : Int) < G 14 1) (h24 : L.length ≤ 24) (hB : Bh G L) {t : Nat} (ht : t ∈ L) : ∀ (d p fu : Nat) (T : AS), L.length = p + d → d < fu → MV sh S T L (lv G) p → ∃ T', f_X5_leavesIn_7 fu (some 0) (some (sh t)) p T = some ((0, lv G t, none), T') ∧ Sc S T' := by
  have htm := hL t ht
  have lt := gi.lt htm
  intro d
  induction d with
  | zero =>
    intro p fu T hp hf m
    obtain ⟨fu, rfl⟩ : ∃ z, fu = z + 1 := ⟨fu - 1, by omega⟩
    have hT := m.1.1.stt hs
    have CT := C.kp m.1.1.kp
    refine ⟨T, ?_, m.1.1⟩
    unfold f_X5_leavesIn_7
    obtain ⟨q, hq, e⟩ := List.getElem_of_mem ht
    rw [fr_0_2 hT.1, Option.bind_some, fg_2 hT.1, Option.bind_some, m.1.2.1, if_pos (by omega), fr_0_4 hT.1, Option.bind_some, c_i0 CT htm, Option.bind_some, fa_11 hT.1 (by omega) (by omega), Option.bind_some, tn, rI_s]
    have := m.2 q hq (by omega)
    rw [e] at this
    rw [this]
  | succ d ih =>
    intro p fu T hp hf m
    obtain ⟨fu, rfl⟩ : ∃ z, fu = z + 1 := ⟨fu - 1, by omega⟩
    have hpl : p < L.length := by omega
    have hx := hL _ (List.getElem_mem hpl)
    have hT := m.1.1.stt hs
    have CT := C.kp m.1.1.kp
    have kid := m.kid hB hpl
    have e1 := leaves_48 C hs gi hL h24 (t := t) (f_X5_leavesIn_7 fu) m.1 hpl (fun k hk => by
      rw [kid k hk]
      exact lv_b 24 _) (G 18 L[p]).toNat 0 FU (by omega) (FU_gt (by have := gi.ni hx; omega))
    have ev : lvF G (hI T 11) L[p] = lv G L[p] := (lvF_lo _ _ _ hx kid).trans (fxp_at gi lvF_lo hx).symm
    obtain ⟨T', e2, s2⟩ := ih (p + 1) fu _ (by omega) (by omega) (m.nx hpl ev)
    refine ⟨T', ?_, s2⟩
    conv => lhs; unfold f_X5_leavesIn_7
    rw [fr_0_2 hT.1, Option.bind_some, fg_2 hT.1, Option.bind_some, m.1.2.1, if_neg (by omega), Option.bind_some, fr_2_0 hT.1, Option.bind_some, fa_3 hT.1 (by omega) (by omega), Option.bind_some, tn, m.1.2.2 p hpl, c_in CT hx, Option.bind_some, c_k1 CT hx, gd_1, isLeaf_eq CT hx, cI_s]
    unfold f_X5_leavesIn_43
    by_cases c : G 18 L[p] = 0
    · rw [if_neg (by rw [Bo_t c]; decide)]
      simp only [lsm, if_pos c] at e1
      exact e1.trans e2
    · rw [if_pos (by rw [Bo_f c])]
      simp only [lsm, if_neg c] at e1
      exact e1.trans e2
theorem nets_7 (C : Cls sh ins pl nt wy tg G S) (hs : Stt S) (gi : GI G) {L : List Nat} (hL : ∀ y, y ∈ L → (y : Int) < G 14 1) (h24 : L.length ≤ 24) (hB : Bh G L) {t : Nat} (ht : t ∈ L) : ∀ (d p fu : Nat) (T : AS), L.length = p + d → d < fu → MV sh S T L (nto G) p → ∃ T', f_X5_netsOfOccurrences_7 fu (some 0) (some (sh t)) p T = some ((0, nto G t, none), T') ∧ Sc S T' := by
  have htm := hL t ht
  have lt := gi.lt htm
  intro d
  induction d with
  | zero =>
    intro p fu T hp hf m
    obtain ⟨fu, rfl⟩ : ∃ z, fu = z + 1 := ⟨fu - 1, by omega⟩
    have hT := m.1.1.stt hs
    have CT := C.kp m.1.1.kp
    refine ⟨T, ?_, m.1.1⟩
    unfold f_X5_netsOfOccurrences_7
    obtain ⟨q, hq, e⟩ := List.getElem_of_mem ht
    rw [fr_0_2 hT.1, Option.bind_some, fg_2 hT.1, Option.bind_some, m.1.2.1, if_pos (by omega), fr_0_4 hT.1, Option.bind_some, c_i0 CT htm, Option.bind_some, fa_11 hT.1 (by omega) (by omega), Option.bind_some, tn, rI_s]
    have := m.2 q hq (by omega)
    rw [e] at this
    rw [this]
  | succ d ih =>
    intro p fu T hp hf m
    obtain ⟨fu, rfl⟩ : ∃ z, fu = z + 1 := ⟨fu - 1, by omega⟩
    have hpl : p < L.length := by omega
    have hx := hL _ (List.getElem_mem hpl)
    have hT := m.1.1.stt hs
    have CT := C.kp m.1.1.kp
    have kid := m.kid hB hpl
    have e1 := nets_40 C hs gi hL h24 (t := t) (f_X5_netsOfOccurrences_7 fu) m.1 hpl (fun k hk => by
      rw [kid k hk]
      exact nto_b gi (gi.fv hx hk).2) (G 18 L[p]).toNat 0 FU (by omega) (FU_gt (by have := gi.ni hx; omega))
    have ev : ntF G (hI T 11) L[p] = nto G L[p] := (ntF_lo _ _ _ hx kid).trans (fxp_at gi ntF_lo hx).symm
    obtain ⟨T', e2, s2⟩ := ih (p + 1) fu _ (by omega) (by omega) (m.nx hpl ev)
    refine ⟨T', ?_, s2⟩
    conv => lhs; unfold f_X5_netsOfOccurrences_7
    rw [fr_0_2 hT.1, Option.bind_some, fg_2 hT.1, Option.bind_some, m.1.2.1, if_neg (by omega), Option.bind_some, fr_2_0 hT.1, Option.bind_some, fa_3 hT.1 (by omega) (by omega), Option.bind_some, tn, m.1.2.2 p hpl, c_in CT hx, Option.bind_some, c_a3 CT hx, Option.bind_some]
    exact e1.trans e2
theorem OS.ot {T : AS} {L : List Nat} {H : Nat → Prop} (h : OS sh S T L H) {v : Nat → Int} : MV sh S T L v 0 := ⟨⟨h.1, h.2.1, h.2.2.1⟩, fun q _ h => absurd h (Nat.not_lt_zero _)⟩
theorem layers_eq (C : Cls sh ins pl nt wy tg G S) (hs : Stt S) (gi : GI G) {x : Nat} {T : AS} (hsc : Sc S T) (hx : (x : Int) < G 14 1) : ∃ T', f_X5_layersBelow (some 0) (some (sh x)) T = some ((0, lay G x, none), T') ∧ Sc S T' := by
  obtain ⟨T1, L, e, o, b, n, l, xl, r⟩ := orderFrom_eq C hs gi hsc hx
  have h24 := nodup_len (n := 24) n (fun y hy => gi.lt (l y hy))
  obtain ⟨T', e2, s2⟩ := layers_7 C hs gi l h24 b xl L.length 0 FU T1 (by omega) (FU_gt (by omega)) o.ot
  refine ⟨T', ?_, s2⟩
  unfold f_X5_layersBelow
  rw [fk_0 (hsc.fix hs.1), gd_1, e, cV_s]
  exact e2
theorem leaves_eq (C : Cls sh ins pl nt wy tg G S) (hs : Stt S) (gi : GI G) {x : Nat} {T : AS} (hsc : Sc S T) (hx : (x : Int) < G 14 1) : ∃ T', f_X5_leavesIn (some 0) (some (sh x)) T = some ((0, lv G x, none), T') ∧ Sc S T' := by
  obtain ⟨T1, L, e, o, b, n, l, xl, r⟩ := orderFrom_eq C hs gi hsc hx
  have h24 := nodup_len (n := 24) n (fun y hy => gi.lt (l y hy))
  obtain ⟨T', e2, s2⟩ := leaves_7 C hs gi l h24 b xl L.length 0 FU T1 (by omega) (FU_gt (by omega)) o.ot
  refine ⟨T', ?_, s2⟩
  unfold f_X5_leavesIn
  rw [fk_0 (hsc.fix hs.1), gd_1, e, cV_s]
  exact e2
theorem nets_eq (C : Cls sh ins pl nt wy tg G S) (hs : Stt S) (gi : GI G) {x : Nat} {T : AS} (hsc : Sc S T) (hx : (x : Int) < G 14 1) : ∃ T', f_X5_netsOfOccurrences (some 0) (some (sh x)) T = some ((0, nto G x, none), T') ∧ Sc S T' := by
  obtain ⟨T1, L, e, o, b, n, l, xl, r⟩ := orderFrom_eq C hs gi hsc hx
  have h24 := nodup_len (n := 24) n (fun y hy => gi.lt (l y hy))
  obtain ⟨T', e2, s2⟩ := nets_7 C hs gi l h24 b xl L.length 0 FU T1 (by omega) (FU_gt (by omega)) o.ot
  refine ⟨T', ?_, s2⟩
  unfold f_X5_netsOfOccurrences
  rw [fk_0 (hsc.fix hs.1), gd_1, e, cV_s]
  exact e2
noncomputable def cov (G : Nat → Nat → Int) (x : Nat) (y : Int) : Int := if y = 0 then G 15 x else if y = 1 then G 18 x else if y = 2 then G 20 x else if y = 3 then pc G x else if y = 4 then lay G x else lv G x
theorem x_count (C : Cls sh ins pl nt wy tg G S) (hs : Stt S) (gi : GI G) (x y : Int) : (¬ ((0 ≤ x ∧ x < G 14 1) ∧ 0 ≤ y ∧ y < 6) → CO S (f_X5_count (some 0) x y S) 1 0) ∧ ((0 ≤ x ∧ x < G 14 1) ∧ 0 ≤ y ∧ y < 6 → CO S (f_X5_count (some 0) x y S) 0 (cov G x.toNat y)) := by
  by_cases hx : 0 ≤ x ∧ x < G 14 1
  · obtain ⟨n, rfl⟩ : ∃ n : Nat, x = n := ⟨x.toNat, by omega⟩
    have hn9 : (n : Int) < G 14 1 := hx.2
    rw [tn]
    have e0 : ∀ c, c = f_X5_count (some 0) n y S → (¬ ((0 ≤ (n : Int) ∧ (n : Int) < G 14 1) ∧ 0 ≤ y ∧ y < 6) → CO S c 1 0) ∧ ((0 ≤ (n : Int) ∧ (n : Int) < G 14 1) ∧ 0 ≤ y ∧ y < 6 → CO S c 0 (cov G n y)) := fun c hc => by
      unfold f_X5_count at hc
      rw [fk_0 hs.1, gd_1, shellAt_t C hs.1 gi hx, cR_s, tn] at hc
      have d := fun (h : y = 0 ∨ y = 1 ∨ y = 2 ∨ y = 3 ∨ y = 4 ∨ y = 5) => h
      by_cases c0 : y = 0
      · rw [if_pos c0, c_i3 C hn9, Option.bind_some, rI_s] at hc
        refine ⟨fun q => by omega, fun _ => ?_⟩
        rw [hc, cov, if_pos c0]
        exact CO.v (Sc.rfl' S) hs
      · by_cases c1 : y = 1
        · rw [if_neg c0, if_pos c1, c_in C hn9, Option.bind_some, c_a2 C hn9, Option.bind_some, rI_s] at hc
          refine ⟨fun q => by omega, fun _ => ?_⟩
          rw [hc, cov, if_neg c0, if_pos c1]
          exact CO.v (Sc.rfl' S) hs
        · by_cases c2 : y = 2
          · rw [if_neg c0, if_neg c1, if_pos c2, c_in C hn9, Option.bind_some, c_a3 C hn9, Option.bind_some, rI_s] at hc
            refine ⟨fun q => by omega, fun _ => ?_⟩
            rw [hc, cov, if_neg c0, if_neg c1, if_pos c2]
            exact CO.v (Sc.rfl' S) hs
          · by_cases c3 : y = 3
            · rw [if_neg c0, if_neg c1, if_neg c2, if_pos c3, c_i4 C hn9, Option.bind_some, rI_s] at hc
              refine ⟨fun q => by omega, fun _ => ?_⟩
              rw [hc, cov, if_neg c0, if_neg c1, if_neg c2, if_pos c3]
              exact CO.v (Sc.rfl' S) hs
            · by_cases c4 : y = 4
              · obtain ⟨T, e, s⟩ := layers_eq C hs gi (Sc.rfl' S) hn9
                rw [if_neg c0, if_neg c1, if_neg c2, if_neg c3, if_pos c4, fk_0 hs.1, gd_1, e, cI_s, rI_s] at hc
                refine ⟨fun q => by omega, fun _ => ?_⟩
                rw [hc, cov, if_neg c0, if_neg c1, if_neg c2, if_neg c3, if_pos c4]
                exact CO.v s hs
              · by_cases c5 : y = 5
                · obtain ⟨T, e, s⟩ := leaves_eq C hs gi (Sc.rfl' S) hn9
                  rw [if_neg c0, if_neg c1, if_neg c2, if_neg c3, if_neg c4, if_pos c5, fk_0 hs.1, gd_1, e, cI_s, rI_s] at hc
                  refine ⟨fun q => by omega, fun _ => ?_⟩
                  rw [hc, cov, if_neg c0, if_neg c1, if_neg c2, if_neg c3, if_neg c4]
                  exact CO.v s hs
                · rw [if_neg c0, if_neg c1, if_neg c2, if_neg c3, if_neg c4, if_neg c5] at hc
                  refine ⟨fun _ => ?_, fun q => by omega⟩
                  rw [hc]
                  exact CO.x (Sc.rfl' S) hs
    exact e0 _ rfl
  · refine ⟨fun _ => ?_, fun q => absurd q.1 hx⟩
    unfold f_X5_count
    rw [fk_0 hs.1, gd_1, shellAt_f C hs.1 hx, cR_X]
    exact CO.x (Sc.rfl' S) hs
end
