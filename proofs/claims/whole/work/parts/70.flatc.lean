/-! the class numbers the nets and makes the flat inside -/
variable {sh ins : Nat → Nat} {pl nt wy : Nat → Nat → Nat} {tg : Nat → Nat × Nat}
section
variable {G : Nat → Nat → Int} {S : AS} {rk : Nat → Nat} {x : Nat} {w : WT}
theorem numberNets_4 {l : Nat → Nat} {N : Nat} (hN3 : N ≤ 3000) (hl9 : ∀ y, y < N → l y ≤ y) : ∀ (d k fu : Nat) (T : AS), N = k + d → d < fu → Fix T → hI T 5 5 = (N : Int) → (∀ y, y < k → hI T 6 y = (nu l y : Int)) → (∀ y, k ≤ y → y < N → ∃ z : Nat, hI T 6 y = (z : Int) ∧ z ≤ y ∧ l z = l y ∧ (z = y → l y = y)) → ∃ T', f_X1_numberNets_4 fu (some 5) (cnt (fun i => decide (l i = i)) k : Int) k T = some ((0, (cnt (fun i => decide (l i = i)) N : Int), none), T') ∧ Ch c6 T T' ∧ ∀ y, y < N → hI T' 6 y = (nu l y : Int) := by
  intro d
  induction d with
  | zero =>
    intro k fu T hk9 hf fT h5 h6 h7
    obtain ⟨fu, rfl⟩ : ∃ z, fu = z + 1 := ⟨fu - 1, by omega⟩
    refine ⟨T, ?_, Ch.rfl' _ _, fun y hy => h6 y (by omega)⟩
    unfold f_X1_numberNets_4
    rw [fg_5 fT, Option.bind_some, h5, if_pos (by omega), rI_s, show k = N by omega]
  | succ d ih =>
    intro k fu T hk9 hf fT h5 h6 h7
    obtain ⟨fu, rfl⟩ : ∃ z, fu = z + 1 := ⟨fu - 1, by omega⟩
    obtain ⟨z, z1, z2, z3, z4⟩ := h7 k (Nat.le_refl _) (by omega)
    have cl9 := cnt_le (fun i => decide (l i = i)) k
    have lz := hl9 z (by omega)
    have go : ∀ v : Int, v = (nu l k : Int) → Fix (wI T 6 k v) ∧ hI (wI T 6 k v) 5 5 = (N : Int) ∧ (∀ y, y < k + 1 → hI (wI T 6 k v) 6 y = (nu l y : Int)) ∧ ∀ y, k + 1 ≤ y → y < N → ∃ z : Nat, hI (wI T 6 k v) 6 y = (z : Int) ∧ z ≤ y ∧ l z = l y ∧ (z = y → l y = y) := fun v hv => by
      refine ⟨fT.wI _ _ _, by rw [hI_wn (by omega)]; exact h5, fun y hy => ?_, fun y y1 y2 => ?_⟩
      · rw [hI_wI]
        by_cases c : y = k
        · rw [if_pos ⟨rfl, c⟩, c, hv]
        · rw [if_neg (by omega)]; exact h6 y (by omega)
      · rw [hI_wn (by omega)]; exact h7 y (by omega) y2
    by_cases c : z = k
    · have lk := z4 c
      have en : nu l k = cnt (fun i => decide (l i = i)) k := by unfold nu; rw [lk]
      obtain ⟨g1, g2, g3, g4⟩ := go (cnt (fun i => decide (l i = i)) k) (by rw [en])
      obtain ⟨T', e, c', r⟩ := ih (k + 1) fu _ (by omega) (by omega) g1 g2 g3 g4
      refine ⟨T', ?_, ((Ch.rfl' c6 T).wr (a := 6) (k := k) (cnt (fun i => decide (l i = i)) k : Int) rfl).tr c', r⟩
      rw [← e, cnt_s, if_pos (by simp [lk])]
      conv => lhs; unfold f_X1_numberNets_4
      rw [fg_5 fT, Option.bind_some, h5, if_neg (by omega), fr_5_0 fT, Option.bind_some, fa_6 fT (by omega) (by omega), Option.bind_some, tn, z1, if_pos (by omega), Option.bind_some, fs_6 fT _ (by omega) (by omega), Option.bind_some, tn, chk_ok (by omega) (by omega), Option.bind_some, chk_ok (by omega) (by omega), Option.bind_some]
      rfl
    · have nlk : ¬ l k = k := by omega
      have en : (nu l z : Int) = (nu l k : Int) := by unfold nu; rw [z3]
      obtain ⟨g1, g2, g3, g4⟩ := go (nu l z) en
      obtain ⟨T', e, c', r⟩ := ih (k + 1) fu _ (by omega) (by omega) g1 g2 g3 g4
      refine ⟨T', ?_, ((Ch.rfl' c6 T).wr (a := 6) (k := k) (nu l z : Int) rfl).tr c', r⟩
      have c6z := h6 z (by omega)
      rw [← e, cnt_s, if_neg (by simp [nlk])]
      conv => lhs; unfold f_X1_numberNets_4
      rw [fg_5 fT, Option.bind_some, h5, if_neg (by omega), fr_5_0 fT, Option.bind_some, fa_6 fT (by omega) (by omega), Option.bind_some, tn, z1, if_neg (by omega), Option.bind_some, Option.bind_some, fa_6 fT (by omega) (by omega), Option.bind_some, tn, c6z, fs_6 fT _ (by omega) (by omega), Option.bind_some, tn, chk_ok (by omega) (by omega), Option.bind_some]
      rfl
theorem numberNets_eq {l : Nat → Nat} {N : Nat} (hN3 : N ≤ 3000) (hl9 : ∀ y, y < N → l y ≤ y) {T : AS} (fT : Fix T) (h5 : hI T 5 5 = (N : Int)) (uf : UF (hI T 6) l N) : ∃ T', f_X1_numberNets (some 5) T = some ((0, (cnt (fun i => decide (l i = i)) N : Int), none), T') ∧ Ch c6 T T' ∧ ∀ y, y < N → hI T' 6 y = (nu l y : Int) :=
  numberNets_4 hN3 hl9 N 0 FU T (by omega) (FU_gt (by omega)) fT h5 (fun y hy => absurd hy (Nat.not_lt_zero _)) (fun y _ hy => uf y hy)
/-- renumber: from f into t -/
theorem renumber_3 {l : Nat → Nat} {N f t n : Nat} {s : Int} {g : Nat → Int} (hN3 : N ≤ 3000) (hft : f ≠ t) (h39 : 39 ≤ t) (hn9 : n ≤ 128) (hg : ∀ q, q < n → -1 ≤ g q ∧ (g q ≠ -1 → 0 ≤ s + g q ∧ s + g q < N)) (hs9 : 0 ≤ s ∧ s ≤ 3000) : ∀ (d p fu : Nat) (T : AS), n = p + d → d < fu → Fix T → (hk T f = 8 ∧ hl T f = n) → (hk T t = 8 ∧ n ≤ hl T t) → (∀ q, q < n → hI T f q = g q) → (∀ y, y < N → hI T 6 y = (nu l y : Int)) → ∃ T', f_X1_renumber_3 fu (some 5) (some f) s (some t) p T = some ((0, 0, none), T') ∧ Ch (fun a j => a = t ∧ p ≤ j ∧ j < n) T T' ∧ ∀ q, p ≤ q → q < n → hI T' t q = ren (nu l) s (g q) := by
  intro d
  induction d with
  | zero =>
    intro p fu T hp hf fT kf kt hfq h6
    obtain ⟨fu, rfl⟩ : ∃ z, fu = z + 1 := ⟨fu - 1, by omega⟩
    refine ⟨T, ?_, Ch.rfl' _ _, fun q h1 h2 => by omega⟩
    unfold f_X1_renumber_3
    rw [ln_at kf.1, Option.bind_some, kf.2, if_pos (by omega), rV_s]
  | succ d ih =>
    intro p fu T hp hf fT kf kt hfq h6
    obtain ⟨fu, rfl⟩ : ∃ z, fu = z + 1 := ⟨fu - 1, by omega⟩
    have gp := hg p (by omega)
    have vp := hfq p (by omega)
    obtain ⟨T1, hT1⟩ : ∃ T1, T1 = wI T t p (ren (nu l) s (g p)) := ⟨_, rfl⟩
    obtain ⟨T', e, c', v'⟩ := ih (p + 1) fu T1 (by omega) (by omega) (by rw [hT1]; exact fT.wI _ _ _) (by rw [hT1]; exact kf) (by rw [hT1]; exact kt) (fun q hq => by rw [hT1, hI_wn (by omega)]; exact hfq q hq) (fun y hy => by rw [hT1, hI_wn (by omega)]; exact h6 y hy)
    refine ⟨T', ?_, ?_, fun q h1 h2 => ?_⟩
    · refine Eq.trans ?_ e
      rw [hT1]
      conv => lhs; unfold f_X1_renumber_3
      rw [ln_at kf.1, Option.bind_some, kf.2, if_neg (by omega), aI_at kf.1 (by omega) (by rw [kf.2]; omega), Option.bind_some, tn, vp]
      unfold ren
      by_cases c : g p = -1
      · rw [if_pos c, if_pos c, sI_at kt.1 (by omega) (by omega), Option.bind_some, tn, chk_ok (by omega) (by omega), Option.bind_some]
        rfl
      · have gb := gp.2 c
        rw [if_neg c, if_neg c, fr_5_0 fT, Option.bind_some, Option.bind_some, chk_ok (by omega) (by omega), Option.bind_some, fa_6 fT (by omega) (by omega), Option.bind_some, h6 _ (by omega), sI_at kt.1 (by omega) (by omega), Option.bind_some, tn, chk_ok (by omega) (by omega), Option.bind_some]
        rfl
    · refine Ch.tr (T := T1) ?_ (c'.sub (fun a j z => ⟨z.1, by omega, z.2.2⟩))
      rw [hT1]
      exact (Ch.rfl' _ _).wr _ ⟨rfl, by omega, by omega⟩
    · by_cases cq : q = p
      · subst cq
        rw [c'.i (by omega), hT1, hI_w0]
      · exact v' q (by omega) h2
theorem renumber_eq {l : Nat → Nat} {N f t n : Nat} {s : Int} {g : Nat → Int} (hN3 : N ≤ 3000) (hft : f ≠ t) (h39 : 39 ≤ t) (hn9 : n ≤ 128) (hg : ∀ q, q < n → -1 ≤ g q ∧ (g q ≠ -1 → 0 ≤ s + g q ∧ s + g q < N)) (hs9 : 0 ≤ s ∧ s ≤ 3000) {T : AS} (fT : Fix T) (kf : hk T f = 8 ∧ hl T f = n) (kt : hk T t = 8 ∧ n ≤ hl T t) (hfq : ∀ q, q < n → hI T f q = g q) (h6 : ∀ y, y < N → hI T 6 y = (nu l y : Int)) : ∃ T', f_X1_renumber (some 5) (some f) s (some t) T = some ((0, 0, none), T') ∧ Ch (fun a _ => a = t) T T' ∧ ∀ q, q < n → hI T' t q = ren (nu l) s (g q) := by
  obtain ⟨T', e, c', v'⟩ := renumber_3 (l := l) hN3 hft h39 hn9 hg hs9 n 0 FU T (by omega) (FU_gt (by omega)) fT kf kt hfq h6
  exact ⟨T', e, c'.sub (fun a j z => z.1), fun q hq => v' q (Nat.zero_le _) hq⟩
theorem Ch.od {X : Nat → Nat → Prop} {T : AS} (h : Ch X S T) {y : Nat} (hx : ∀ j, ¬ X y j) : Od y S T := by
  refine ⟨?_, ?_, fun j => h.i (hx j), fun j => ?_⟩
  · obtain ⟨J, rfl, -⟩ := h; rfl
  · obtain ⟨J, rfl, -⟩ := h; rfl
  · obtain ⟨J, rfl, -⟩ := h; rfl
theorem Ch.sz {X : Nat → Nat → Prop} {T : AS} (h : Ch X S T) : hn T = hn S ∧ hu T = hu S ∧ hk T = hk S ∧ hl T = hl S ∧ hR T = hR S := by
  obtain ⟨J, rfl, -⟩ := h
  exact ⟨rfl, rfl, rfl, rfl, rfl⟩
/-- what the flat inside is made of: leaves in the layout -/
def Lx (G : Nat → Nat → Int) (sh : Nat → Nat) (l : Nat → Nat) (N : Nat) (T : AS) (w : WT) (s0 q : Nat) (P Z : Nat) : Prop := hR T 8 q = some P ∧ (39 ≤ P ∧ P < hn T ∧ hk T P = 4) ∧ (hR T P 0 = some (sh (lf9 G w q)) ∧ hR T P 2 = some Z) ∧ (39 ≤ Z ∧ Z < hn T ∧ hk T Z = 8 ∧ (hl T Z : Int) = pc G (lf9 G w q)) ∧ (∀ p : Nat, (p : Int) < pc G (lf9 G w q) → hI T Z p = qn G (wm w (wo w q)) (wj w q + 1) p) ∧ hI T 9 q = fst G w (wo w q) ∧ hR T 10 q = some (s0 + q)
/-- one placement of the flat inside at a -/
def Iq (G : Nat → Nat → Int) (sh : Nat → Nat) (l : Nat → Nat) (U : AS) (w : WT) (s0 a q : Nat) : Prop := hR U (a + 2) q = some (a + 4 + 2 * q) ∧ hk U (a + 4 + 2 * q) = 4 ∧ (hR U (a + 4 + 2 * q) 0 = some (sh (lf9 G w q)) ∧ hR U (a + 4 + 2 * q) 1 = some (s0 + q) ∧ hR U (a + 4 + 2 * q) 2 = some (a + 3 + 2 * q)) ∧ (hk U (a + 3 + 2 * q) = 8 ∧ (hl U (a + 3 + 2 * q) : Int) = pc G (lf9 G w q)) ∧ ∀ p : Nat, (p : Int) < pc G (lf9 G w q) → hI U (a + 3 + 2 * q) p = ren (nu l) (fst G w (wo w q)) (qn G (wm w (wo w q)) (wj w q + 1) p)
/-- the flat inside at a with k placements -/
def If (G : Nat → Nat → Int) (sh : Nat → Nat) (l : Nat → Nat) (T U : AS) (w : WT) (s0 a k : Nat) : Prop := (hn U = a + 3 + 2 * k ∧ hu U ≤ hu T + 131 * k) ∧ (∀ y, y < a + 3 → y ≠ a → y ≠ a + 2 → Od y T U) ∧ (hk U a = 1 ∧ hk U (a + 2) = 10 ∧ hl U (a + 2) = 64) ∧ (∀ j, hR U a j = hR T a j) ∧ (∀ j, hI U a j = if j = 2 then (k : Int) else hI T a j) ∧ ∀ q, q < k → Iq G sh l U w s0 a q
theorem insideFor_32 (gi : GI G) (hw : WF G rk x w) {l : Nat → Nat} {N a s0 : Nat} (hN : fst G w (wn w) = N) (hN3 : N ≤ 3000) (h64 : wl w ≤ 64) {T : AS} (fT : Fix T) (ha : hn T = a + 3) (h39 : 39 ≤ a) (kS : ∀ i : Nat, (i : Int) < G 14 1 → hk T (sh i) = 5 ∧ sh i < a) (kW : ∀ q, q < wl w → hk T (s0 + q) = 8 ∧ 39 ≤ s0 ∧ s0 + q < a) (r1 : hR T a 1 = some (a + 2)) (rm : hn T + 200 ≤ CM ∧ hu T + 9000 ≤ UM) (P Z : Nat → Nat) (lx : ∀ q, q < wl w → Lx G sh l N T w s0 q (P q) (Z q) ∧ P q < a ∧ Z q < a) (h56 : hI T 5 6 = (wl w : Int)) (h6 : ∀ y, y < N → hI T 6 y = (nu l y : Int)) : ∀ (d k fu : Nat) (U : AS), wl w = k + d → d < fu → If G sh l T U w s0 a k → ∃ U', f_X1_insideFor_32 fu (some 5) (some a) k U = some ((0, 0, some a), U') ∧ If G sh l T U' w s0 a (wl w) := by
  intro d
  induction d with
  | zero =>
    intro k fu U hk9 hf iU
    obtain ⟨fu, rfl⟩ : ∃ z, fu = z + 1 := ⟨fu - 1, by omega⟩
    have o5 := iU.2.1 5 (by omega) (by omega) (by omega)
    have k5 : hk U 5 = 2 := by rw [o5.1]; exact fT.kd (a := 5) (by decide)
    refine ⟨U, ?_, by rw [hk9]; exact iU⟩
    unfold f_X1_insideFor_32
    rw [gI_at k5, Option.bind_some, o5.2.2.1, h56, if_pos (by omega), rR_s]
  | succ d ih =>
    intro k fu U hk9 hf iU
    obtain ⟨fu, rfl⟩ : ∃ z, fu = z + 1 := ⟨fu - 1, by omega⟩
    have hkl : k < wl w := by omega
    obtain ⟨⟨n1, u1⟩, od, ⟨ka, ka2, la2⟩, ra, ia, iq⟩ := iU
    have fix9 : ∀ (V : AS), (∀ y, y < 39 → Od y T V) → Fix V := fun V hV => ⟨fun b hb => by rw [(hV b hb).1, (hV b hb).2.1]; exact fT.1 b hb, fun r hr => by
      have z : ∀ r ∈ rT, r.1 < 39 := by decide
      rw [(hV r.1 (z r hr)).2.2.2]
      exact fT.2 r hr⟩
    have fU : Fix U := fix9 U (fun y hy => od y (by omega) (by omega) (by omega))
    obtain ⟨⟨x1, x2, x3, x4, x5, x6, x7⟩, x8, x9⟩ := lx k hkl
    obtain ⟨oq, jq, -⟩ := hw.2.2.2 k hkl
    have hmm := (hw.2.1 _ oq).1
    have ni := gi.ni hmm
    have hc : (lf9 G w k : Int) < G 14 1 := (gi.fv hmm jq).2
    have pb := pc_le (gi.pw hc)
    obtain ⟨M, hM⟩ : ∃ M : Nat, hl T (Z k) = M := ⟨_, rfl⟩
    have oP := od (P k) (by omega) (by omega) (fun q => by omega)
    have oZ := od (Z k) (by omega) (by omega) (fun q => by omega)
    have kPZ : hk U (P k) = 4 := by rw [oP.1]; exact x2.2.2
    have kZ : hk U (Z k) = 8 := by rw [oZ.1]; exact x4.2.2.1
    have lZ : hl U (Z k) = M := by rw [oZ.2.1]; exact hM
    -- the row
    obtain ⟨V, hV⟩ : ∃ V, V = wN U 8 M M := ⟨_, rfl⟩
    have nV : hn V = a + 4 + 2 * k := by rw [hV, hn_wN, n1]; omega
    have oV : ∀ y, y ≠ a + 3 + 2 * k → Od y U V := fun y hy => by rw [hV]; exact Od.n (by rw [n1]; exact hy)
    have kV : hk V (a + 3 + 2 * k) = 8 := by rw [hV, hk_wN, if_pos (by rw [n1])]
    have lV : hl V (a + 3 + 2 * k) = M := by rw [hV, hl_wN, if_pos (by rw [n1])]
    have oTV : ∀ y, y < a + 3 → y ≠ a → y ≠ a + 2 → Od y T V := fun y g1 g2 g3 => (od y g1 g2 g3).tr (oV y (by omega))
    have fV : Fix V := fix9 V (fun y hy => oTV y (by omega) (by omega) (by omega))
    have p0 := fst_up gi hw (wn w - wo w k) (wo w k) (by omega)
    rw [show wo w k + (wn w - wo w k) = wn w by omega, hN] at p0
    obtain ⟨R, eR, cR, vR⟩ := renumber_eq (l := l) (N := N) (f := Z k) (t := a + 3 + 2 * k) (n := M) (s := fst G w (wo w k)) (g := fun p => qn G (wm w (wo w k)) (wj w k + 1) p) hN3 (by omega) (by omega) (by omega) (fun q hq => by
      have b := qn_lt gi hmm (j := wj w k + 1) (p := q) (by omega) (by omega)
      refine ⟨b.1, fun z => ?_⟩
      have := fst_in gi hw oq (v := qn G (wm w (wo w k)) (wj w k + 1) q) (by omega) b.2
      rw [hN] at this
      exact this) (by omega) fV (by rw [(oTV (Z k) (by omega) (by omega) (by omega)).1, (oTV (Z k) (by omega) (by omega) (by omega)).2.1]; exact ⟨x4.2.2.1, hM⟩) ⟨kV, by rw [lV]; exact Nat.le_refl _⟩ (fun q hq => by rw [(oTV (Z k) (by omega) (by omega) (by omega)).2.2.1]; exact x5 q (by omega)) (fun y hy => by rw [(oTV 6 (by omega) (by omega) (by omega)).2.2.1]; exact h6 y hy)
    obtain ⟨sR1, sR2, sR3, sR4, sR5⟩ := cR.sz
    have oR : ∀ y, y ≠ a + 3 + 2 * k → Od y U R := fun y hy => (oV y hy).tr (cR.od (fun j q => hy q))
    have nR : hn R = a + 4 + 2 * k := by rw [sR1, nV]
    -- the placement
    obtain ⟨X, hX⟩ : ∃ X, X = wN R 4 0 3 := ⟨_, rfl⟩
    have oX : ∀ y, y ≠ a + 3 + 2 * k → y ≠ a + 4 + 2 * k → Od y U X := fun y g1 g2 => (oR y g1).tr (by rw [hX]; exact Od.n (by rw [nR]; exact g2))
    have oTX : ∀ y, y < a + 3 → y ≠ a → y ≠ a + 2 → Od y T X := fun y g1 g2 g3 => (od y g1 g2 g3).tr (oX y (by omega) (by omega))
    have fX : Fix X := fix9 X (fun y hy => oTX y (by omega) (by omega) (by omega))
    have kX : hk X (a + 4 + 2 * k) = 4 := by rw [hX, hk_wN, if_pos (by rw [nR])]
    obtain ⟨Y, hY⟩ : ∃ Y, Y = wR (wR (wR X (a + 4 + 2 * k) 0 (some (sh (lf9 G w k)))) (a + 4 + 2 * k) 1 (some (s0 + k))) (a + 4 + 2 * k) 2 (some (a + 3 + 2 * k)) := ⟨_, rfl⟩
    have oY : ∀ y, y ≠ a + 4 + 2 * k → Od y X Y := fun y hy => by rw [hY]; exact ((Od.r hy).tr (Od.r hy)).tr (Od.r hy)
    have oUY : ∀ y, y ≠ a + 3 + 2 * k → y ≠ a + 4 + 2 * k → Od y U Y := fun y g1 g2 => (oX y g1 g2).tr (oY y g2)
    have kY : hk Y = hk X := by rw [hY]; rfl
    have ya := oUY a (by omega) (by omega)
    have ya2 := oUY (a + 2) (by omega) (by omega)
    have eA := addPl_ok (S := Y) (b := a) (k := k) (P := a + 4 + 2 * k) (by rw [ya.1]; exact ka) (by rw [ya.2.2.2, ra]; exact r1) (by rw [ya2.1]; exact ka2) (by rw [ya2.2.1]; exact la2) (by rw [ya.2.2.1, ia, if_pos rfl]) (by omega) (by rw [kY]; exact kX)
    obtain ⟨Q, hQ⟩ : ∃ Q, Q = wI (wR Y (a + 2) k (some (a + 4 + 2 * k))) a 2 ((k : Int) + 1) := ⟨_, rfl⟩
    rw [← hQ] at eA
    have oQ : ∀ y, y ≠ a → y ≠ a + 2 → Od y Y Q := fun y g1 g2 => by rw [hQ]; exact (Od.r g2).tr (Od.w g1)
    have oUQ : ∀ y, y ≠ a + 3 + 2 * k → y ≠ a + 4 + 2 * k → y ≠ a → y ≠ a + 2 → Od y U Q := fun y g1 g2 g3 g4 => (oUY y g1 g2).tr (oQ y g3 g4)
    have iQ : If G sh l T Q w s0 a (k + 1) := by
      refine ⟨⟨?_, ?_⟩, fun y g1 g2 g3 => (od y g1 g2 g3).tr (oUQ y (by omega) (by omega) g2 g3), ⟨?_, ?_, ?_⟩, fun j => ?_, fun j => ?_, fun q hq => ?_⟩
      · rw [hQ, hn_wI, hn_wR, hY, hn_wR, hn_wR, hn_wR, hX, hn_wN, nR]; omega
      · rw [hQ, hu_wI, hu_wR, hY, hu_wR, hu_wR, hu_wR, hX, hu_wN, sR2, hV, hu_wN]
        omega
      · rw [hQ, hk_wI, hk_wR, ya.1]; exact ka
      · rw [hQ, hk_wI, hk_wR, ya2.1]; exact ka2
      · rw [hQ, hl_wI, hl_wR, ya2.2.1]; exact la2
      · rw [hQ, hR_wI, hR_wR, if_neg (by omega), ya.2.2.2, ra]
      · rw [hQ, hI_wI]
        by_cases c : j = 2
        · rw [if_pos ⟨rfl, c⟩, if_pos c]; omega
        · rw [if_neg (by omega), if_neg c, hI_wR, ya.2.2.1, ia, if_neg c]
      · by_cases c : q = k
        · subst c
          have q4 := oQ (a + 4 + 2 * q) (by omega) (by omega)
          have q3 := (oY (a + 3 + 2 * q) (by omega)).tr (oQ (a + 3 + 2 * q) (by omega) (by omega))
          have x3' : Od (a + 3 + 2 * q) R X := by rw [hX]; exact Od.n (by rw [nR]; omega)
          refine ⟨?_, by rw [q4.1, kY]; exact kX, ⟨?_, ?_, ?_⟩, ⟨?_, ?_⟩, fun p hp => ?_⟩
          · rw [hQ, hR_wI, hR_wR, if_pos ⟨rfl, rfl⟩]
          · rw [q4.2.2.2, hY, hR_wR, if_neg (by omega), hR_wR, if_neg (by omega), hR_wR, if_pos ⟨rfl, rfl⟩]
          · rw [q4.2.2.2, hY, hR_wR, if_neg (by omega), hR_wR, if_pos ⟨rfl, rfl⟩]
          · rw [q4.2.2.2, hY, hR_wR, if_pos ⟨rfl, rfl⟩]
          · rw [q3.1, x3'.1, sR3]; exact kV
          · rw [q3.2.1, x3'.2.1, sR4, lV, ← hM]; exact x4.2.2.2
          · rw [q3.2.2.1, x3'.2.2.1]
            exact vR p (by omega)
        · obtain ⟨a1, a2, a3, a4, a5⟩ := iq q (by omega)
          have q4 := oUQ (a + 4 + 2 * q) (by omega) (by omega) (by omega) (by omega)
          have q3 := oUQ (a + 3 + 2 * q) (by omega) (by omega) (by omega) (by omega)
          refine ⟨?_, by rw [q4.1]; exact a2, by rw [q4.2.2.2, q4.2.2.2, q4.2.2.2]; exact a3, by rw [q3.1, q3.2.1]; exact a4, fun p hp => by rw [q3.2.2.1]; exact a5 p hp⟩
          rw [hQ, hR_wI, hR_wR, if_neg (by omega), ya2.2.2.2]; exact a1
    obtain ⟨U', e, iU'⟩ := ih (k + 1) fu Q (by omega) (by omega) iQ
    refine ⟨U', ?_, iU'⟩
    rw [← e]
    have o5 := od 5 (by omega) (by omega) (by omega)
    have u56 : hI U 5 6 = (wl w : Int) := by rw [o5.2.2.1]; exact h56
    have u8 : hR U 8 k = some (P k) := by rw [(od 8 (by omega) (by omega) (by omega)).2.2.2]; exact x1
    have uP2 : hR U (P k) 2 = some (Z k) := by rw [oP.2.2.2]; exact x3.2
    have v8 : hR V 8 k = some (P k) := by rw [(oTV 8 (by omega) (by omega) (by omega)).2.2.2]; exact x1
    have vkP : hk V (P k) = 4 := by rw [(oTV (P k) (by omega) (by omega) (by omega)).1]; exact x2.2.2
    have vP2 : hR V (P k) 2 = some (Z k) := by rw [(oTV (P k) (by omega) (by omega) (by omega)).2.2.2]; exact x3.2
    have v9 : hI V 9 k = fst G w (wo w k) := by rw [(oTV 9 (by omega) (by omega) (by omega)).2.2.1]; exact x6
    have x8 : hR X 8 k = some (P k) := by rw [(oTX 8 (by omega) (by omega) (by omega)).2.2.2]; exact x1
    have xkP : hk X (P k) = 4 := by rw [(oTX (P k) (by omega) (by omega) (by omega)).1]; exact x2.2.2
    have xP0 : hR X (P k) 0 = some (sh (lf9 G w k)) := by rw [(oTX (P k) (by omega) (by omega) (by omega)).2.2.2]; exact x3.1
    have x10 : hR X 10 k = some (s0 + k) := by rw [(oTX 10 (by omega) (by omega) (by omega)).2.2.2]; exact x7
    conv => lhs; unfold f_X1_insideFor_32
    rw [fg_5 fU, Option.bind_some, u56, if_neg (by omega), fr_5_2 fU, Option.bind_some, fa_8 fU (by omega) (by omega), Option.bind_some, tn, u8, gR_at kPZ, Option.bind_some, uP2, ln_at kZ, Option.bind_some, lZ, nA_ok (by omega) (by omega) (by omega), Option.bind_some, tn, ← hV, fr_5_2 fV, Option.bind_some, fa_8 fV (by omega) (by omega), Option.bind_some, tn, v8, gR_at vkP, Option.bind_some, vP2, fr_5_3 fV, Option.bind_some, fa_9 fV (by omega) (by omega), Option.bind_some, tn, v9, fk_5 fV, gd_1, n1, eR, cV_s, nO_ok (by omega) (by show hu R + 3 ≤ UM; rw [sR2, hV, hu_wN]; omega), Option.bind_some, show wN R 4 0 (NC (4 - 1)) = wN R 4 0 3 from rfl, ← hX, fr_5_2 fX, Option.bind_some, fa_8 fX (by omega) (by omega), Option.bind_some, tn, x8, gR_at xkP, Option.bind_some, xP0, fr_5_4 fX, Option.bind_some, fa_10 fX (by omega) (by omega), Option.bind_some, tn, x10, nR, plInit_ok kX, cN_s, ← hY, isK_at (by rw [ya.1]; exact ka), gd_1, eA, cI_s, chk_ok (by omega) (by omega), Option.bind_some]
    rfl
end
