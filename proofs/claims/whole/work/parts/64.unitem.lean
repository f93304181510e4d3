/-! nets that are one: labels; the model's unite and number -/
def Con (E : Nat → Nat → Prop) (x y : Nat) : Prop := ∀ f : Nat → Nat, (∀ a b, E a b → f a = f b) → f x = f y
def Lb (E : Nat → Nat → Prop) (N : Nat) (l : Nat → Nat) : Prop := (∀ x, x < N → l x ≤ x ∧ Con E x (l x)) ∧ ∀ a b, E a b → l a = l b
theorem Lb.un {E : Nat → Nat → Prop} {N : Nat} {l k : Nat → Nat} (h : Lb E N l) (g : Lb E N k) {x : Nat} (hx : x < N) : l x = k x := by
  obtain ⟨h1, h2⟩ := h.1 x hx
  obtain ⟨g1, g2⟩ := g.1 x hx
  have a := h2 k g.2
  have b := g2 l h.2
  have c := (g.1 (l x) (by omega)).1
  have d := (h.1 (k x) (by omega)).1
  omega
theorem Lb.id {E : Nat → Nat → Prop} {N : Nat} {l : Nat → Nat} (h : Lb E N l) {x : Nat} (hx : x < N) : l (l x) = l x := ((h.1 x hx).2 l h.2).symm
def sm (f : Nat → Nat) : Nat → Nat
  | 0 => 0
  | n + 1 => sm f n + f n
theorem sm_sub {f g : Nat → Nat} : ∀ n, (∀ k, k < n → f k ≤ g k) → sm f n ≤ sm g n := by
  intro n
  induction n with
  | zero => intro _; exact Nat.le_refl _
  | succ n ih =>
    intro h
    have := ih (fun k hk => h k (by omega))
    have := h n (by omega)
    simp only [sm]
    omega
theorem sm_lt {f g : Nat → Nat} {j : Nat} (hj : f j < g j) : ∀ n, j < n → (∀ k, k < n → f k ≤ g k) → sm f n < sm g n := by
  intro n
  induction n with
  | zero => intro h; omega
  | succ n ih =>
    intro h hh
    have a := sm_sub n (fun k hk => hh k (by omega))
    have b := hh n (by omega)
    simp only [sm]
    by_cases c : j = n
    · subst c; omega
    · have := ih (by omega) (fun k hk => hh k (by omega))
      omega
theorem sm_le {f : Nat → Nat} {B : Nat} : ∀ n, (∀ k, k < n → f k ≤ B) → n ≤ 3000 → B ≤ 3000 → sm f n ≤ n * 3000 := by
  intro n
  induction n with
  | zero => intro _ _ _; exact Nat.le_refl _
  | succ n ih =>
    intro h h1 h2
    have := ih (fun k hk => h k (by omega)) (by omega) h2
    have := h n (by omega)
    simp only [sm]
    omega
section
variable {G : Nat → Nat → Int} {S : AS} {rk : Nat → Nat} {x : Nat} {w : WT}
/-- the pins that stand over each other: of occurrence i and the one above it -/
def E1 (G : Nat → Nat → Int) (w : WT) (i q a b : Nat) : Prop := q < np G (wm w i) 0 ∧ qn G (wm w (wp w i)) (wi w i + 1) q ≠ -1 ∧ qn G (wm w i) 0 q ≠ -1 ∧ (a : Int) = fst G w (wp w i) + qn G (wm w (wp w i)) (wi w i + 1) q ∧ (b : Int) = fst G w i + qn G (wm w i) 0 q
def Ed (G : Nat → Nat → Int) (w : WT) (o p a b : Nat) : Prop := ∃ i q, 1 ≤ i ∧ i < wn w ∧ (i < o ∨ (i = o ∧ q < p)) ∧ E1 G w i q a b
def EE (G : Nat → Nat → Int) (w : WT) (a b : Nat) : Prop := Ed G w (wn w) 0 a b
theorem fst_up (gi : GI G) (hw : WF G rk x w) : ∀ d o, o + d ≤ wn w → 0 ≤ fst G w o ∧ fst G w o ≤ fst G w (o + d) := by
  have pos : ∀ o, o ≤ wn w → 0 ≤ fst G w o := by
    intro o
    induction o with
    | zero => intro _; exact Int.le_refl _
    | succ o ih =>
      intro h
      have := ih (by omega)
      have := (gi.nn (hw.2.1 o (by omega)).1).1
      simp only [fst]
      omega
  intro d
  induction d with
  | zero => intro o h; exact ⟨pos o (by omega), Int.le_refl _⟩
  | succ d ih =>
    intro o h
    have a := ih o (by omega)
    have := (gi.nn (hw.2.1 (o + d) (by omega)).1).1
    rw [show o + (d + 1) = o + d + 1 by omega]
    simp only [fst]
    omega
theorem fst_in (gi : GI G) (hw : WF G rk x w) {o : Nat} (ho : o < wn w) {v : Int} (h0 : 0 ≤ v) (hv : v < G 20 (wm w o)) : 0 ≤ fst G w o + v ∧ fst G w o + v < fst G w (wn w) := by
  have a := fst_up gi hw (wn w - (o + 1)) (o + 1) (by omega)
  have b := fst_up gi hw 0 o (by omega)
  rw [show o + 1 + (wn w - (o + 1)) = wn w by omega] at a
  simp only [fst] at a
  omega
/-- both ends of an edge -/
theorem E1.lt (gi : GI G) (hw : WF G rk x w) {i q a b : Nat} (h1 : 1 ≤ i) (hi : i < wn w) (h : E1 G w i q a b) : (a : Int) < fst G w (wn w) ∧ (b : Int) < fst G w (wn w) := by
  obtain ⟨e1, e2, e3, e4, e5⟩ := h
  obtain ⟨p1, p2, -⟩ := hw.2.2.1 i hi h1
  have m1 := (hw.2.1 i hi).1
  have m2 := (hw.2.1 (wp w i) (by omega)).1
  have n1 := (np_le gi (j := 0) m1 (by have := gi.ni m1; omega)).1
  have ni := gi.ni m2
  have q1 := qn_lt gi m2 (j := wi w i + 1) (p := q) (by omega) (by omega)
  have q2 := qn_lt gi m1 (j := 0) (p := q) (by omega) (by omega)
  have f1 := fst_in gi hw (o := wp w i) (by omega) (v := qn G (wm w (wp w i)) (wi w i + 1) q) (by omega) (by omega)
  have f2 := fst_in gi hw (o := i) hi (v := qn G (wm w i) 0 q) (by omega) (by omega)
  omega
def F28 (G : Nat → Nat → Int) (w : WT) (T : AS) : Prop := ∀ i, i ≤ wn w → hI T 28 i = fst G w i
theorem lower_eq {T : AS} (fT : Fix T) {a b : Nat} (ha : a < 3001) (hb : b < 3001) {l : Int} (el : l = if hI T 33 b ≤ hI T 33 a then hI T 33 b else hI T 33 a) : f_X6_lower (some 14) a b T = some ((0, if hI T 33 a = hI T 33 b then 0 else 1, none), wI (wI T 33 a l) 33 b l) := by
  have f1 := fT.wI 33 a l
  have s51 : ∀ t : Int, t = 0 ∨ t = 1 → f_X6_lower_51 (some 14) a b l t T = some ((0, t, none), wI (wI T 33 a l) 33 b l) := fun t ht => by
    unfold f_X6_lower_51
    rw [fr_14_23 fT, Option.bind_some, fs_33 fT _ (by omega) (by omega), Option.bind_some, tn, fr_14_23 f1, Option.bind_some, fs_33 f1 _ (by omega) (by omega), Option.bind_some, tn, rZ_ok ht]
  have s30 : f_X6_lower_30 (some 14) a b l T = some ((0, if hI T 33 a = hI T 33 b then 0 else 1, none), wI (wI T 33 a l) 33 b l) := by
    unfold f_X6_lower_30
    rw [fr_14_23 fT, Option.bind_some, fa_33 fT (by omega) (by omega), Option.bind_some, Option.bind_some, fa_33 fT (by omega) (by omega), Option.bind_some, tn, tn, s51 0 (Or.inl rfl), s51 1 (Or.inr rfl)]
    by_cases c : hI T 33 a = hI T 33 b
    · rw [if_pos c, if_pos c]
    · rw [if_neg c, if_neg c]
  unfold f_X6_lower
  rw [fr_14_23 fT, Option.bind_some, fa_33 fT (by omega) (by omega), Option.bind_some, Option.bind_some, fa_33 fT (by omega) (by omega), Option.bind_some, tn, tn]
  by_cases c : hI T 33 b ≤ hI T 33 a
  · rw [if_pos c] at el
    rw [if_pos c, Option.bind_some, fa_33 fT (by omega) (by omega), Option.bind_some, tn, show f_X6_lower_30 (some 14) a b (hI T 33 b) T = f_X6_lower_30 (some 14) a b l T by rw [el], s30]
  · rw [if_neg c] at el
    rw [if_neg c, Option.bind_some, fa_33 fT (by omega) (by omega), Option.bind_some, tn, show f_X6_lower_30 (some 14) a b (hI T 33 a) T = f_X6_lower_30 (some 14) a b l T by rw [el], s30]
/-- while the model unites -/
def LSt (G : Nat → Nat → Int) (S : AS) (w : WT) (N : Nat) (T : AS) : Prop := MW S T w ∧ F28 G w T ∧ ∀ y, y < N → ∃ z : Nat, hI T 33 y = (z : Int) ∧ z ≤ y ∧ Con (EE G w) y z
def sml (T : AS) (N : Nat) : Nat := sm (fun y => (hI T 33 y).toNat) N
theorem unite_133 (h : Fix S) (g : Ag G S) (gi : GI G) (hw : WF G rk x w) {N : Nat} (hN : fst G w (wn w) = N) (hN3 : N ≤ 3000) (hn16 : wn w ≤ 1600) {o : Nat} (ho : o < wn w) (ho1 : 1 ≤ o) (k95 : Option Nat → Int → AS → Option RS) (k103 : Option Nat → Int → Int → AS → Option RS) : ∀ (d p fu : Nat) (T : AS) (mo : Int), np G (wm w o) 0 = p + d → d < fu → LSt G S w N T → (mo = 0 ∨ mo = 1) → ∃ T' mo', f_X6_unite_133 fu k95 k103 (some 14) mo o (wp w o) (np G (wm w o) 0) p T = k103 (some 14) mo' ((o : Int) + 1) T' ∧ LSt G S w N T' ∧ (mo' = 0 ∨ mo' = 1) ∧ sml T' N ≤ sml T N ∧ (mo' = 1 → mo = 1 ∨ sml T' N < sml T N) ∧ (mo' = 0 → mo = 0 ∧ (∀ y, y < N → hI T' 33 y = hI T 33 y) ∧ ∀ q a b, p ≤ q → E1 G w o q a b → hI T' 33 a = hI T' 33 b) := by
  obtain ⟨p1, p2, p3, -⟩ := hw.2.2.1 o ho ho1
  have m1 := (hw.2.1 o ho).1
  have m2 := (hw.2.1 (wp w o) (by omega)).1
  have l1 := gi.lt m1
  have l2 := gi.lt m2
  have n1 := (np_le gi (j := 0) m1 (by have := gi.ni m1; omega)).1
  have ni := gi.ni m2
  intro d
  induction d with
  | zero =>
    intro p fu T mo hp hf ls hmo
    obtain ⟨fu, rfl⟩ : ∃ z, fu = z + 1 := ⟨fu - 1, by omega⟩
    refine ⟨T, mo, ?_, ls, hmo, Nat.le_refl _, fun q => Or.inl q, fun q => ⟨q, fun _ _ => rfl, fun q a b h1 h2 => by have := h2.1; omega⟩⟩
    unfold f_X6_unite_133
    rw [if_pos (by omega), chk_ok (by omega) (by omega), Option.bind_some]
  | succ d ih =>
    intro p fu T mo hp hf ls hmo
    obtain ⟨fu, rfl⟩ : ∃ z, fu = z + 1 := ⟨fu - 1, by omega⟩
    obtain ⟨fT, gT, -, -⟩ := ls.1.1.ok h g
    obtain ⟨c25, -, c27⟩ := ls.1.2.2.1 o ho
    obtain ⟨d25, -, -⟩ := ls.1.2.2.1 (wp w o) (by omega)
    rw [if_neg (by omega)] at c27
    have q1 := qn_lt gi m2 (j := wi w o + 1) (p := p) (by omega) (by omega)
    have q2 := qn_lt gi m1 (j := 0) (p := p) (by omega) (by omega)
    obtain ⟨A, hA⟩ : ∃ A, A = qn G (wm w (wp w o)) (wi w o + 1) p := ⟨_, rfl⟩
    obtain ⟨B, hB⟩ : ∃ B, B = qn G (wm w o) 0 p := ⟨_, rfl⟩
    rw [← hA] at q1
    rw [← hB] at q2
    have i1 : 8320 * wm w (wp w o) + 128 * jb (wi w o + 1) + p < 199680 := by unfold jb; split <;> omega
    have i2 : 8320 * wm w o + 8192 + p < 199680 := by omega
    have at1 := at_eq (m := wm w (wp w o)) (j := wi w o + 1) (p := p) (by omega) (by omega) (by omega) T
    rw [show ((wi w o + 1 : Nat) : Int) - 1 = (wi w o : Int) by omega] at at1
    have at2 := at_own (m := wm w o) (p := p) (by omega) (by omega) T
    have eA : G 22 (8320 * wm w (wp w o) + 128 * jb (wi w o + 1) + p) = A := hA.symm
    have eB : G 22 (8320 * wm w o + 8192 + p) = B := hB.symm
    -- what one pin does
    have step : ∃ T1 mo1, f_X6_unite_133 (fu + 1) k95 k103 (some 14) mo o (wp w o) (np G (wm w o) 0) p T = f_X6_unite_133 fu k95 k103 (some 14) mo1 o (wp w o) (np G (wm w o) 0) ((p + 1 : Nat) : Int) T1 ∧ LSt G S w N T1 ∧ (mo1 = 0 ∨ mo1 = 1) ∧ sml T1 N ≤ sml T N ∧ (mo1 = 1 → mo = 1 ∨ sml T1 N < sml T N) ∧ (mo1 = 0 → mo = 0 ∧ (∀ y, y < N → hI T1 33 y = hI T 33 y) ∧ ∀ a b, E1 G w o p a b → hI T1 33 a = hI T1 33 b) := by
      by_cases cn : A = -1 ∨ B = -1
      · refine ⟨T, mo, ?_, ls, hmo, Nat.le_refl _, fun q => Or.inl q, fun q => ⟨q, fun _ _ => rfl, fun a b e => ?_⟩⟩
        · conv => lhs; unfold f_X6_unite_133
          rw [if_neg (by omega), fr_14_10 fT, Option.bind_some, fr_14_14 fT, Option.bind_some, fa_25 fT (by omega) (by omega), Option.bind_some, tn, d25, fr_14_16 fT, Option.bind_some, fa_27 fT (by omega) (by omega), Option.bind_some, tn, c27, at1, cI_s, ma_22 fT gT (by omega) (by omega), Option.bind_some, tn, eA, fr_14_10 fT, Option.bind_some, fr_14_14 fT, Option.bind_some, fa_25 fT (by omega) (by omega), Option.bind_some, tn, c25, at2, cI_s, ma_22 fT gT (by omega) (by omega), Option.bind_some, tn, eB, chk_ok (x := (p : Int) + 1) (by omega) (by omega)]
          by_cases cA : A = -1
          · rw [if_pos cA, Option.bind_some]
            rfl
          · rw [if_neg cA, if_pos (cn.resolve_left cA), Option.bind_some]
            rfl
        · obtain ⟨-, e2, e3, -⟩ := e
          rw [← hA] at e2
          rw [← hB] at e3
          exact absurd cn (by omega)
      · have cA : A ≠ -1 := by omega
        have cB : B ≠ -1 := by omega
        have fa := fst_in gi hw (o := wp w o) (by omega) (v := A) (by omega) (by omega)
        have fb := fst_in gi hw (o := o) ho (v := B) (by omega) (by omega)
        obtain ⟨a, ha⟩ : ∃ a : Nat, (a : Int) = fst G w (wp w o) + A := ⟨(fst G w (wp w o) + A).toNat, by omega⟩
        obtain ⟨b, hb⟩ : ∃ b : Nat, (b : Int) = fst G w o + B := ⟨(fst G w o + B).toNat, by omega⟩
        have aN : a < N := by omega
        have bN : b < N := by omega
        have ed : E1 G w o p a b := ⟨by omega, by rw [← hA]; exact cA, by rw [← hB]; exact cB, by rw [← hA]; exact ha, by rw [← hB]; exact hb⟩
        have eab : EE G w a b := ⟨o, p, ho1, ho, Or.inl ho, ed⟩
        obtain ⟨l, hl9⟩ : ∃ l : Int, l = if hI T 33 b ≤ hI T 33 a then hI T 33 b else hI T 33 a := ⟨_, rfl⟩
        have low := lower_eq fT (a := a) (b := b) (by omega) (by omega) hl9
        obtain ⟨T1, hT1⟩ : ∃ T1, T1 = wI (wI T 33 a l) 33 b l := ⟨_, rfl⟩
        rw [← hT1] at low
        have u33 : ∀ y, hI T1 33 y = if y = a ∨ y = b then l else hI T 33 y := fun y => by
          rw [hT1, hI_wI, hI_wI]
          by_cases c1 : y = b
          · rw [if_pos ⟨rfl, c1⟩, if_pos (Or.inr c1)]
          · rw [if_neg (by omega)]
            by_cases c2 : y = a
            · rw [if_pos ⟨rfl, c2⟩, if_pos (Or.inl c2)]
            · rw [if_neg (by omega), if_neg (by omega)]
        obtain ⟨za, a1, a2, a3⟩ := ls.2.2 a aN
        obtain ⟨zb, b1, b2, b3⟩ := ls.2.2 b bN
        have lz : ∃ z : Nat, l = z ∧ (z ≤ za ∧ z ≤ zb) ∧ Con (EE G w) a z ∧ Con (EE G w) b z := by
          by_cases c : hI T 33 b ≤ hI T 33 a
          · rw [if_pos c] at hl9
            exact ⟨zb, by omega, by omega, fun f hf => (hf a b eab).trans (b3 f hf), b3⟩
          · rw [if_neg c] at hl9
            exact ⟨za, by omega, by omega, a3, fun f hf => (hf a b eab).symm.trans (a3 f hf)⟩
        obtain ⟨z, z1, z2, z3, z4⟩ := lz
        have ls1 : LSt G S w N T1 := by
          refine ⟨by rw [hT1]; exact (ls.1.st _ (by omega)).st _ (by omega), fun i hi => ?_, fun y hy => ?_⟩
          · rw [hT1, hI_wn (by omega), hI_wn (by omega)]; exact ls.2.1 i hi
          · rw [u33]
            by_cases c1 : y = a
            · subst c1
              rw [if_pos (Or.inl rfl)]
              exact ⟨z, z1, by omega, z3⟩
            · by_cases c2 : y = b
              · subst c2
                rw [if_pos (Or.inr rfl)]
                exact ⟨z, z1, by omega, z4⟩
              · rw [if_neg (by omega)]
                exact ls.2.2 y hy
        have sub : ∀ y, y < N → (hI T1 33 y).toNat ≤ (hI T 33 y).toNat := fun y hy => by
          rw [u33]
          by_cases c1 : y = a
          · subst c1; rw [if_pos (Or.inl rfl)]; omega
          · by_cases c2 : y = b
            · subst c2; rw [if_pos (Or.inr rfl)]; omega
            · rw [if_neg (by omega)]; exact Nat.le_refl _
        have sle : sml T1 N ≤ sml T N := sm_sub N sub
        have slt : hI T 33 a ≠ hI T 33 b → sml T1 N < sml T N := fun hne => by
          by_cases c : hI T 33 b ≤ hI T 33 a
          · rw [if_pos c] at hl9
            exact sm_lt (j := a) (by rw [u33, if_pos (Or.inl rfl)]; omega) N aN sub
          · rw [if_neg c] at hl9
            exact sm_lt (j := b) (by rw [u33, if_pos (Or.inr rfl)]; omega) N bN sub
        have c28 := ls.2.1 (wp w o) (by omega)
        have d28 := ls.2.1 o (by omega)
        have e0 : f_X6_unite_133 (fu + 1) k95 k103 (some 14) mo o (wp w o) (np G (wm w o) 0) p T = f_X6_unite_133 fu k95 k103 (some 14) (if hI T 33 a = hI T 33 b then mo else 1) o (wp w o) (np G (wm w o) 0) ((p + 1 : Nat) : Int) T1 := by
          have st : f_X6_unite_224 k95 k103 (f_X6_unite_133 fu k95 k103) (some 14) o (wp w o) (np G (wm w o) 0) p T1 = f_X6_unite_133 fu k95 k103 (some 14) 1 o (wp w o) (np G (wm w o) 0) ((p + 1 : Nat) : Int) T1 := by
            unfold f_X6_unite_224
            rw [chk_ok (by omega) (by omega), Option.bind_some]
            rfl
          conv => lhs; unfold f_X6_unite_133
          rw [if_neg (by omega), fr_14_10 fT, Option.bind_some, fr_14_14 fT, Option.bind_some, fa_25 fT (by omega) (by omega), Option.bind_some, tn, d25, fr_14_16 fT, Option.bind_some, fa_27 fT (by omega) (by omega), Option.bind_some, tn, c27, at1, cI_s, ma_22 fT gT (by omega) (by omega), Option.bind_some, tn, eA, fr_14_10 fT, Option.bind_some, fr_14_14 fT, Option.bind_some, fa_25 fT (by omega) (by omega), Option.bind_some, tn, c25, at2, cI_s, ma_22 fT gT (by omega) (by omega), Option.bind_some, tn, eB, if_neg cA, if_neg cB, fr_14_17 fT, Option.bind_some, fa_28 fT (by omega) (by omega), Option.bind_some, tn, c28, ← ha, chk_ok (by omega) (by omega), Option.bind_some, Option.bind_some, fa_28 fT (by omega) (by omega), Option.bind_some, tn, d28, ← hb, chk_ok (by omega) (by omega), Option.bind_some, fk_14 fT, gd_1, low, cI_s, st]
          by_cases c : hI T 33 a = hI T 33 b
          · rw [if_pos c, if_pos c, if_pos rfl]
            rcases hmo with z | z
            · rw [z, if_pos rfl, chk_ok (by omega) (by omega), Option.bind_some]
              rfl
            · rw [z, if_neg (by decide)]
          · rw [if_neg c, if_neg c, if_neg (by decide)]
        refine ⟨T1, _, e0, ls1, ?_, sle, fun q => ?_, fun q => ?_⟩
        · split
          · exact hmo
          · exact Or.inr rfl
        · by_cases c : hI T 33 a = hI T 33 b
          · rw [if_pos c] at q; exact Or.inl q
          · exact Or.inr (slt c)
        · by_cases c : hI T 33 a = hI T 33 b
          · rw [if_pos c] at q
            have el : l = hI T 33 a := by rw [hl9]; split <;> omega
            refine ⟨q, fun y hy => ?_, fun a' b' e => ?_⟩
            · rw [u33]
              by_cases c1 : y = a
              · subst c1; rw [if_pos (Or.inl rfl), el]
              · by_cases c2 : y = b
                · subst c2; rw [if_pos (Or.inr rfl), el, c]
                · rw [if_neg (by omega)]
            · obtain ⟨-, -, -, e4, e5⟩ := e
              rw [← hA] at e4
              rw [← hB] at e5
              have x1 : a' = a := by omega
              have x2 : b' = b := by omega
              subst x1; subst x2
              rw [u33, u33, if_pos (Or.inl rfl), if_pos (Or.inr rfl)]
          · rw [if_neg c] at q; omega
    obtain ⟨T1, mo1, e1, ls1, m1', s1, w1, z1⟩ := step
    obtain ⟨T', mo', e2, ls2, m2', s2, w2, z2⟩ := ih (p + 1) fu T1 mo1 (by omega) (by omega) ls1 m1'
    refine ⟨T', mo', e1.trans e2, ls2, m2', by omega, fun q => ?_, fun q => ?_⟩
    · rcases w2 q with y | y
      · rcases w1 y with z | z
        · exact Or.inl z
        · exact Or.inr (by omega)
      · exact Or.inr (by omega)
    · obtain ⟨y1, y2, y3⟩ := z2 q
      obtain ⟨x1, x2, x3⟩ := z1 y1
      refine ⟨x1, fun y hy => (y2 y hy).trans (x2 y hy), fun r a b hr e => ?_⟩
      by_cases c : r = p
      · subst c
        obtain ⟨b1, b2⟩ := E1.lt gi hw ho1 ho e
        rw [y2 a (by omega), y2 b (by omega)]
        exact x3 a b e
      · exact y3 r a b (by omega) e
theorem unite_103 (h : Fix S) (g : Ag G S) (gi : GI G) (hw : WF G rk x w) {N : Nat} (hN : fst G w (wn w) = N) (hN3 : N ≤ 3000) (hn16 : wn w ≤ 1600) (k95 : Option Nat → Int → AS → Option RS) : ∀ (d o fu : Nat) (T : AS) (mo : Int), wn w = o + d → 1 ≤ o → d < fu → LSt G S w N T → (mo = 0 ∨ mo = 1) → ∃ T' mo', f_X6_unite_103 fu k95 (some 14) mo o T = k95 (some 14) mo' T' ∧ LSt G S w N T' ∧ (mo' = 0 ∨ mo' = 1) ∧ sml T' N ≤ sml T N ∧ (mo' = 1 → mo = 1 ∨ sml T' N < sml T N) ∧ (mo' = 0 → mo = 0 ∧ (∀ y, y < N → hI T' 33 y = hI T 33 y) ∧ ∀ i q a b, o ≤ i → i < wn w → E1 G w i q a b → hI T' 33 a = hI T' 33 b) := by
  intro d
  induction d with
  | zero =>
    intro o fu T mo ho ho1 hf ls hmo
    obtain ⟨fu, rfl⟩ : ∃ z, fu = z + 1 := ⟨fu - 1, by omega⟩
    obtain ⟨fT, gT, -, -⟩ := ls.1.1.ok h g
    refine ⟨T, mo, ?_, ls, hmo, Nat.le_refl _, fun q => Or.inl q, fun q => ⟨q, fun _ _ => rfl, fun i q a b h1 h2 => by omega⟩⟩
    unfold f_X6_unite_103
    rw [fg_14 fT, Option.bind_some, ls.1.2.1.1, if_pos (by omega)]
  | succ d ih =>
    intro o fu T mo ho ho1 hf ls hmo
    obtain ⟨fu, rfl⟩ : ∃ z, fu = z + 1 := ⟨fu - 1, by omega⟩
    obtain ⟨fT, gT, -, -⟩ := ls.1.1.ok h g
    have hon : o < wn w := by omega
    have m1 := (hw.2.1 o hon).1
    have n1 := np_le gi (j := 0) m1 (by have := gi.ni m1; omega)
    obtain ⟨c25, c26, -⟩ := ls.1.2.2.1 o hon
    rw [if_neg (by omega)] at c26
    obtain ⟨T1, mo1, e1, ls1, m1', s1, w1, z1⟩ := unite_133 h g gi hw hN hN3 hn16 hon ho1 k95 (f_X6_unite_103 fu k95) (np G (wm w o) 0) 0 FU T mo (by omega) (FU_gt (by omega)) ls hmo
    obtain ⟨T', mo', e2, ls2, m2', s2, w2, z2⟩ := ih (o + 1) fu T1 mo1 (by omega) (by omega) (by omega) ls1 m1'
    refine ⟨T', mo', ?_, ls2, m2', by omega, fun q => ?_, fun q => ?_⟩
    · refine Eq.trans ?_ e2
      rw [show ((o + 1 : Nat) : Int) = (o : Int) + 1 by omega, ← e1]
      conv => lhs; unfold f_X6_unite_103
      have ep : pc G (wm w o) = (np G (wm w o) 0 : Int) := n1.2.symm
      rw [fg_14 fT, Option.bind_some, ls.1.2.1.1, if_neg (by omega), fr_14_15 fT, Option.bind_some, fa_26 fT (by omega) (by omega), Option.bind_some, tn, c26, fr_14_14 fT, Option.bind_some, fa_25 fT (by omega) (by omega), Option.bind_some, tn, c25, fk_14 fT, gd_1, ownPins_eq fT gT (gi.lt m1) (gi.pw m1), cI_s, ep]
      rfl
    · rcases w2 q with y | y
      · rcases w1 y with z | z
        · exact Or.inl z
        · exact Or.inr (by omega)
      · exact Or.inr (by omega)
    · obtain ⟨y1, y2, y3⟩ := z2 q
      obtain ⟨x1, x2, x3⟩ := z1 y1
      refine ⟨x1, fun y hy => (y2 y hy).trans (x2 y hy), fun i r a b hi hi2 e => ?_⟩
      by_cases c : i = o
      · subst c
        obtain ⟨b1, b2⟩ := E1.lt gi hw ho1 hon e
        rw [y2 a (by omega), y2 b (by omega)]
        exact x3 r a b (Nat.zero_le _) e
      · exact y3 i r a b (by omega) hi2 e
/-- the labels are the least -/
def LF (G : Nat → Nat → Int) (S : AS) (w : WT) (N : Nat) (l : Nat → Nat) (T : AS) : Prop := MW S T w ∧ F28 G w T ∧ Lb (EE G w) N l ∧ ∀ y, y < N → hI T 33 y = (l y : Int)
theorem LSt.lf (gi : GI G) (hw : WF G rk x w) {N : Nat} (hN : fst G w (wn w) = N) {T : AS} (ls : LSt G S w N T) (hE : ∀ i q a b, 1 ≤ i → i < wn w → E1 G w i q a b → hI T 33 a = hI T 33 b) : LF G S w N (fun y => (hI T 33 y).toNat) T := by
  refine ⟨ls.1, ls.2.1, ⟨fun y hy => ?_, fun a b ⟨i, q, h1, h2, _, e⟩ => ?_⟩, fun y hy => ?_⟩
  · obtain ⟨z, z1, z2, z3⟩ := ls.2.2 y hy
    dsimp only
    rw [z1, tn]
    exact ⟨z2, z3⟩
  · dsimp only
    rw [hE i q a b h1 h2 e]
  · obtain ⟨z, z1, z2, z3⟩ := ls.2.2 y hy
    dsimp only
    rw [z1, tn]
theorem unite_95 (h : Fix S) (g : Ag G S) (gi : GI G) (hw : WF G rk x w) {N : Nat} (hN : fst G w (wn w) = N) (hN3 : N ≤ 3000) (hn16 : wn w ≤ 1600) : ∀ (e fu : Nat) (T : AS), sml T N ≤ e → e + 1 < fu → LSt G S w N T → ∃ T' l, f_X6_unite_95 fu (some 14) 1 T = some ((0, 1, none), T') ∧ LF G S w N l T' := by
  have h1 := hw.1.1
  intro e
  induction e with
  | zero =>
    intro fu T he hf ls
    obtain ⟨fu, rfl⟩ : ∃ z, fu = z + 1 := ⟨fu - 1, by omega⟩
    obtain ⟨fu, rfl⟩ : ∃ z, fu = z + 1 := ⟨fu - 1, by omega⟩
    obtain ⟨T1, mo1, e1, ls1, m1, s1, w1, z1⟩ := unite_103 h g gi hw hN hN3 hn16 (f_X6_unite_95 (fu + 1)) (wn w - 1) 1 FU T 0 (by omega) (by omega) (FU_gt (by omega)) ls (Or.inl rfl)
    have m0 : mo1 = 0 := by
      rcases m1 with z | z
      · exact z
      · rcases w1 z with y | y <;> omega
    obtain ⟨-, -, q3⟩ := z1 m0
    refine ⟨T1, _, ?_, ls1.lf gi hw hN q3⟩
    conv => lhs; unfold f_X6_unite_95
    rw [if_neg (by decide)]
    refine Eq.trans e1 ?_
    rw [m0]
    unfold f_X6_unite_95
    rw [if_pos rfl, rZ_1]
  | succ e ih =>
    intro fu T he hf ls
    obtain ⟨fu, rfl⟩ : ∃ z, fu = z + 1 := ⟨fu - 1, by omega⟩
    obtain ⟨T1, mo1, e1, ls1, m1, s1, w1, z1⟩ := unite_103 h g gi hw hN hN3 hn16 (f_X6_unite_95 fu) (wn w - 1) 1 FU T 0 (by omega) (by omega) (FU_gt (by omega)) ls (Or.inl rfl)
    have e2 : f_X6_unite_95 (fu + 1) (some 14) 1 T = f_X6_unite_95 fu (some 14) mo1 T1 := by
      conv => lhs; unfold f_X6_unite_95
      rw [if_neg (by decide)]
      exact e1
    rcases m1 with m0 | m0
    · obtain ⟨-, -, q3⟩ := z1 m0
      obtain ⟨fu, rfl⟩ : ∃ z, fu = z + 1 := ⟨fu - 1, by omega⟩
      refine ⟨T1, _, ?_, ls1.lf gi hw hN q3⟩
      rw [e2, m0]
      unfold f_X6_unite_95
      rw [if_pos rfl, rZ_1]
    · have : sml T1 N < sml T N := by
        rcases w1 m0 with y | y
        · omega
        · exact y
      rw [e2, m0]
      exact ih fu T1 (by omega) (by omega) ls1
theorem unite_67 (h : Fix S) (g : Ag G S) (gi : GI G) (hw : WF G rk x w) {N : Nat} (hN : fst G w (wn w) = N) (hN3 : N ≤ 3000) (hn16 : wn w ≤ 1600) : ∀ (d k fu : Nat) (T : AS), N = k + d → d < fu → MW S T w → F28 G w T → (∀ y, y < k → hI T 33 y = (y : Int)) → ∃ T' l, f_X6_unite_67 fu (some 14) k T = some ((0, 1, none), T') ∧ LF G S w N l T' := by
  intro d
  induction d with
  | zero =>
    intro k fu T hk9 hf mw f28 hy
    obtain ⟨fu, rfl⟩ : ∃ z, fu = z + 1 := ⟨fu - 1, by omega⟩
    obtain ⟨fT, gT, -, -⟩ := mw.1.ok h g
    have ls : LSt G S w N T := ⟨mw, f28, fun y hy9 => ⟨y, hy y (by omega), Nat.le_refl _, fun _ _ => rfl⟩⟩
    have sb : sml T N ≤ 9000000 := by
      have := sm_le (f := fun y => (hI T 33 y).toNat) (B := 3000) N (fun y hy9 => by rw [hy y (by omega)]; omega) hN3 (by omega)
      unfold sml
      omega
    obtain ⟨T', l, e, lf⟩ := unite_95 h g gi hw hN hN3 hn16 9000000 FU T sb (FU_gt (by omega)) ls
    refine ⟨T', l, ?_, lf⟩
    have c28 := f28 (wn w) (Nat.le_refl _)
    unfold f_X6_unite_67
    rw [fr_14_17 fT, Option.bind_some, fg_14 fT, Option.bind_some, mw.2.1.1, fa_28 fT (by omega) (by omega), Option.bind_some, tn, c28, if_pos (by omega)]
    exact e
  | succ d ih =>
    intro k fu T hk9 hf mw f28 hy
    obtain ⟨fu, rfl⟩ : ∃ z, fu = z + 1 := ⟨fu - 1, by omega⟩
    obtain ⟨fT, gT, -, -⟩ := mw.1.ok h g
    obtain ⟨T', l, e, lf⟩ := ih (k + 1) fu (wI T 33 k k) (by omega) (by omega) (mw.st _ (by omega)) (fun i hi => by rw [hI_wn (by omega)]; exact f28 i hi) (fun y hy9 => by
      rw [hI_wI]
      by_cases c : y = k
      · rw [if_pos ⟨rfl, c⟩, c]
      · rw [if_neg (by omega)]; exact hy y (by omega))
    refine ⟨T', l, ?_, lf⟩
    have c28 := f28 (wn w) (Nat.le_refl _)
    conv => lhs; unfold f_X6_unite_67
    rw [fr_14_17 fT, Option.bind_some, fg_14 fT, Option.bind_some, mw.2.1.1, fa_28 fT (by omega) (by omega), Option.bind_some, tn, c28, if_neg (by omega), fr_14_23 fT, Option.bind_some, fs_33 fT _ (by omega) (by omega), Option.bind_some, tn, chk_ok (by omega) (by omega), Option.bind_some]
    exact e
theorem unite_9 (h : Fix S) (g : Ag G S) (gi : GI G) (hw : WF G rk x w) (hn16 : wn w ≤ 1600) : ∀ (d o fu : Nat) (T : AS), wn w = o + d → d < fu → MW S T w → (∀ i, i ≤ o → hI T 28 i = fst G w i) → fst G w o ≤ 3000 → ∃ T', (fst G w (wn w) ≤ 3000 ∧ ∃ l, f_X6_unite_9 fu (some 14) o T = some ((0, 1, none), T') ∧ LF G S w (fst G w (wn w)).toNat l T') ∨ (3000 < fst G w (wn w) ∧ f_X6_unite_9 fu (some 14) o T = some ((0, 0, none), T') ∧ AW S T') := by
  intro d
  induction d with
  | zero =>
    intro o fu T ho hf mw f28 h3
    obtain ⟨fu, rfl⟩ : ∃ z, fu = z + 1 := ⟨fu - 1, by omega⟩
    obtain ⟨fT, gT, -, -⟩ := mw.1.ok h g
    have eo : o = wn w := by omega
    rw [eo] at f28 h3
    have p0 := (fst_up gi hw 0 (wn w) (Nat.le_refl _)).1
    obtain ⟨T', l, e, lf⟩ := unite_67 h g gi hw (N := (fst G w (wn w)).toNat) (by omega) (by omega) hn16 (fst G w (wn w)).toNat 0 FU T (by omega) (FU_gt (by omega)) mw f28 (fun y hy => absurd hy (Nat.not_lt_zero _))
    refine ⟨T', Or.inl ⟨h3, l, ?_, lf⟩⟩
    unfold f_X6_unite_9
    rw [fg_14 fT, Option.bind_some, mw.2.1.1, if_pos (by omega)]
    exact e
  | succ d ih =>
    intro o fu T ho hf mw f28 h3
    obtain ⟨fu, rfl⟩ : ∃ z, fu = z + 1 := ⟨fu - 1, by omega⟩
    obtain ⟨fT, gT, -, -⟩ := mw.1.ok h g
    have hon : o < wn w := by omega
    have m1 := (hw.2.1 o hon).1
    have nn := gi.nn m1
    have lm := gi.lt m1
    have c25 := (mw.2.2.1 o hon).1
    have c28 := f28 o (Nat.le_refl _)
    have p0 := (fst_up gi hw 0 o (by omega)).1
    have up := fst_up gi hw d (o + 1) (by omega)
    rw [show o + 1 + d = wn w by omega] at up
    have es : fst G w (o + 1) = fst G w o + G 20 (wm w o) := rfl
    obtain ⟨T1, hT1⟩ : ∃ T1, T1 = wI T 28 (o + 1) (fst G w (o + 1)) := ⟨_, rfl⟩
    have mw1 : MW S T1 w := by rw [hT1]; exact mw.st _ (by omega)
    have f1 := (mw1.1.ok h g).1
    have e0 : f_X6_unite_9 (fu + 1) (some 14) o T = if fst G w (o + 1) ≤ 3000 then f_X6_unite_9 fu (some 14) ((o + 1 : Nat) : Int) T1 else some ((0, 0, none), T1) := by
      conv => lhs; unfold f_X6_unite_9
      rw [fg_14 fT, Option.bind_some, mw.2.1.1, if_neg (by omega), fr_14_17 fT, Option.bind_some, chk_ok (x := (o : Int) + 1) (by omega) (by omega), Option.bind_some, Option.bind_some, fa_28 fT (by omega) (by omega), Option.bind_some, tn, c28, fr_14_7 fT, Option.bind_some, fr_14_14 fT, Option.bind_some, fa_25 fT (by omega) (by omega), Option.bind_some, tn, c25, ma_20 fT gT (by omega) (by omega), Option.bind_some, tn, ← es, chk_ok (x := fst G w (o + 1)) (by omega) (by omega), Option.bind_some, fs_28 fT _ (by omega) (by omega), Option.bind_some, show ((o : Int) + 1).toNat = o + 1 by omega, ← hT1, fr_14_17 f1, Option.bind_some, Option.bind_some, fa_28 f1 (by omega) (by omega), Option.bind_some, show ((o : Int) + 1).toNat = o + 1 by omega, show hI T1 28 (o + 1) = fst G w (o + 1) by rw [hT1, hI_w0], Option.bind_some, rZ_0]
      rfl
    by_cases c : fst G w (o + 1) ≤ 3000
    · obtain ⟨T', hT'⟩ := ih (o + 1) fu T1 (by omega) (by omega) mw1 (fun i hi => by
        rw [hT1, hI_wI]
        by_cases ci : i = o + 1
        · rw [if_pos ⟨rfl, ci⟩, ci]
        · rw [if_neg (by omega)]; exact f28 i (by omega)) c
      refine ⟨T', ?_⟩
      rw [e0, if_pos c]
      exact hT'
    · refine ⟨T1, Or.inr ⟨by omega, ?_, mw1.1⟩⟩
      rw [e0, if_neg c]
theorem unite_eq (h : Fix S) (g : Ag G S) (gi : GI G) (hw : WF G rk x w) (hn16 : wn w ≤ 1600) {T : AS} (mw : MW S T w) : ∃ T', (fst G w (wn w) ≤ 3000 ∧ ∃ l, f_X6_unite (some 14) T = some ((0, 1, none), T') ∧ LF G S w (fst G w (wn w)).toNat l T') ∨ (3000 < fst G w (wn w) ∧ f_X6_unite (some 14) T = some ((0, 0, none), T') ∧ AW S T') := by
  obtain ⟨fT, gT, -, -⟩ := mw.1.ok h g
  obtain ⟨T', hT'⟩ := unite_9 h g gi hw hn16 (wn w) 0 FU (wI T 28 0 0) (by omega) (FU_gt (by omega)) (mw.st _ (by omega)) (fun i hi => by
    have : i = 0 := by omega
    subst this
    rw [hI_w0]; rfl) (by show (0 : Int) ≤ 3000; decide)
  refine ⟨T', ?_⟩
  have e : f_X6_unite (some 14) T = f_X6_unite_9 FU (some 14) ((0 : Nat) : Int) (wI T 28 0 0) := by
    unfold f_X6_unite
    rw [fr_14_17 fT, Option.bind_some, fs_28 fT _ (by omega) (by omega), Option.bind_some]
    rfl
  rw [e]
  exact hT'
/-- the number of a label's first -/
def nu (l : Nat → Nat) (y : Nat) : Nat := cnt (fun i => decide (l i = i)) (l y)
theorem number_4 (h : Fix S) (g : Ag G S) (gi : GI G) {N : Nat} (hN : fst G w (wn w) = N) (hN3 : N ≤ 3000) (hn16 : wn w ≤ 1600) {l : Nat → Nat} : ∀ (d k fu : Nat) (T : AS), N = k + d → d < fu → LF G S w N l T → (∀ y, y < k → hI T 34 y = (nu l y : Int)) → ∃ T', f_X6_number_4 fu (some 14) (cnt (fun i => decide (l i = i)) k : Int) k T = some ((0, (cnt (fun i => decide (l i = i)) N : Int), none), T') ∧ LF G S w N l T' ∧ ∀ y, y < N → hI T' 34 y = (nu l y : Int) := by
  intro d
  induction d with
  | zero =>
    intro k fu T hk9 hf lf hy
    obtain ⟨fu, rfl⟩ : ∃ z, fu = z + 1 := ⟨fu - 1, by omega⟩
    obtain ⟨fT, gT, -, -⟩ := lf.1.1.ok h g
    have c28 := lf.2.1 (wn w) (Nat.le_refl _)
    refine ⟨T, ?_, lf, fun y hy9 => hy y (by omega)⟩
    unfold f_X6_number_4
    rw [fr_14_17 fT, Option.bind_some, fg_14 fT, Option.bind_some, lf.1.2.1.1, fa_28 fT (by omega) (by omega), Option.bind_some, tn, c28, if_pos (by omega), rI_s, show k = N by omega]
  | succ d ih =>
    intro k fu T hk9 hf lf hy
    obtain ⟨fu, rfl⟩ : ∃ z, fu = z + 1 := ⟨fu - 1, by omega⟩
    obtain ⟨fT, gT, -, -⟩ := lf.1.1.ok h g
    have c28 := lf.2.1 (wn w) (Nat.le_refl _)
    have c33 := lf.2.2.2 k (by omega)
    have lk := (lf.2.2.1.1 k (by omega)).1
    have cl9 := cnt_le (fun i => decide (l i = i)) k
    have go : ∀ v : Int, v = (nu l k : Int) → LF G S w N l (wI T 34 k v) ∧ ∀ y, y < k + 1 → hI (wI T 34 k v) 34 y = (nu l y : Int) := fun v hv => by
      refine ⟨⟨lf.1.st _ (by omega), fun i hi => by rw [hI_wn (by omega)]; exact lf.2.1 i hi, lf.2.2.1, fun y hy9 => by rw [hI_wn (by omega)]; exact lf.2.2.2 y hy9⟩, fun y hy9 => ?_⟩
      rw [hI_wI]
      by_cases c : y = k
      · rw [if_pos ⟨rfl, c⟩, c, hv]
      · rw [if_neg (by omega)]; exact hy y (by omega)
    by_cases c : l k = k
    · have en : nu l k = cnt (fun i => decide (l i = i)) k := by unfold nu; rw [c]
      obtain ⟨g1, g2⟩ := go (cnt (fun i => decide (l i = i)) k) (by rw [en])
      obtain ⟨T', e, r⟩ := ih (k + 1) fu _ (by omega) (by omega) g1 g2
      refine ⟨T', ?_, r⟩
      rw [← e, cnt_s, if_pos (by simp [c])]
      conv => lhs; unfold f_X6_number_4
      rw [fr_14_17 fT, Option.bind_some, fg_14 fT, Option.bind_some, lf.1.2.1.1, fa_28 fT (by omega) (by omega), Option.bind_some, tn, c28, if_neg (by omega), fr_14_23 fT, Option.bind_some, fa_33 fT (by omega) (by omega), Option.bind_some, tn, c33, if_pos (by omega), fr_14_24 fT, Option.bind_some, fs_34 fT _ (by omega) (by omega), Option.bind_some, tn, chk_ok (by omega) (by omega), Option.bind_some, chk_ok (by omega) (by omega), Option.bind_some]
      rfl
    · have en : (nu l (l k) : Int) = (nu l k : Int) := by unfold nu; rw [lf.2.2.1.id (by omega)]
      obtain ⟨g1, g2⟩ := go (nu l (l k)) en
      obtain ⟨T', e, r⟩ := ih (k + 1) fu _ (by omega) (by omega) g1 g2
      refine ⟨T', ?_, r⟩
      have c34 := hy (l k) (by omega)
      rw [← e, cnt_s, if_neg (by simp [c])]
      conv => lhs; unfold f_X6_number_4
      rw [fr_14_17 fT, Option.bind_some, fg_14 fT, Option.bind_some, lf.1.2.1.1, fa_28 fT (by omega) (by omega), Option.bind_some, tn, c28, if_neg (by omega), fr_14_23 fT, Option.bind_some, fa_33 fT (by omega) (by omega), Option.bind_some, tn, c33, if_neg (by omega), fr_14_24 fT, Option.bind_some, Option.bind_some, Option.bind_some, fa_33 fT (by omega) (by omega), Option.bind_some, tn, c33, fa_34 fT (by omega) (by omega), Option.bind_some, tn, c34, fs_34 fT _ (by omega) (by omega), Option.bind_some, tn, chk_ok (by omega) (by omega), Option.bind_some]
      rfl
theorem number_eq (h : Fix S) (g : Ag G S) (gi : GI G) {N : Nat} (hN : fst G w (wn w) = N) (hN3 : N ≤ 3000) (hn16 : wn w ≤ 1600) {l : Nat → Nat} {T : AS} (lf : LF G S w N l T) : ∃ T', f_X6_number (some 14) T = some ((0, (cnt (fun i => decide (l i = i)) N : Int), none), T') ∧ LF G S w N l T' ∧ ∀ y, y < N → hI T' 34 y = (nu l y : Int) :=
  number_4 h g gi hN hN3 hn16 N 0 FU T (by omega) (FU_gt (by omega)) lf (fun y hy => absurd hy (Nat.not_lt_zero _))
end
