/-! the class's layout: nets that point to one before them -/
section
variable {G : Nat → Nat → Int} {S : AS} {rk : Nat → Nat} {x : Nat} {w : WT}
def UF (f : Nat → Int) (l : Nat → Nat) (N : Nat) : Prop := ∀ y, y < N → ∃ z : Nat, f y = (z : Int) ∧ z ≤ y ∧ l z = l y ∧ (z = y → l y = y)
def c6 (a _j : Nat) : Prop := a = 6
theorem firstOf_4 {l : Nat → Nat} {N : Nat} (hN3 : N ≤ 3000) : ∀ (y : Nat) (T : AS) (st fu : Nat), y < N → st + y < 3000 → y < fu → Fix T → UF (hI T 6) l N → ∃ T', f_X1_firstOf_4 fu (some 5) y st T = some ((0, (l y : Int), none), T') ∧ Ch c6 T T' ∧ UF (hI T' 6) l N := by
  intro y
  induction y using Nat.strongRecOn with
  | _ y ih =>
    intro T st fu hy hst hf fT uf
    obtain ⟨fu, rfl⟩ : ∃ z, fu = z + 1 := ⟨fu - 1, by omega⟩
    obtain ⟨z, z1, z2, z3, z4⟩ := uf y hy
    by_cases c : z = y
    · refine ⟨T, ?_, Ch.rfl' _ _, uf⟩
      unfold f_X1_firstOf_4
      rw [if_neg (by omega), fr_5_0 fT, Option.bind_some, fa_6 fT (by omega) (by omega), Option.bind_some, tn, z1, if_pos (by omega), rI_s, z4 c]
    · obtain ⟨u, u1, u2, u3, u4⟩ := uf z (by omega)
      obtain ⟨T1, hT1⟩ : ∃ T1, T1 = wI T 6 y u := ⟨_, rfl⟩
      have f1 : Fix T1 := by rw [hT1]; exact fT.wI _ _ _
      have i1 : hI T1 6 y = (u : Int) := by rw [hT1, hI_w0]
      have uf1 : UF (hI T1 6) l N := fun v hv => by
        rw [hT1, hI_wI]
        by_cases cv : v = y
        · rw [if_pos ⟨rfl, cv⟩]
          exact ⟨u, rfl, by omega, by rw [u3, z3, cv], fun q => by omega⟩
        · rw [if_neg (by omega)]
          exact uf v hv
      obtain ⟨T', e, c', uf'⟩ := ih u (by omega) T1 (st + 1) fu (by omega) (by omega) (by omega) f1 uf1
      refine ⟨T', ?_, Ch.tr (T := T1) (by rw [hT1]; exact (Ch.rfl' _ _).wr _ rfl) c', uf'⟩
      rw [show l y = l u by rw [u3, z3]]
      refine Eq.trans ?_ e
      conv => lhs; unfold f_X1_firstOf_4
      rw [if_neg (by omega), fr_5_0 fT, Option.bind_some, fa_6 fT (by omega) (by omega), Option.bind_some, tn, z1, if_neg (by omega), Option.bind_some, Option.bind_some, Option.bind_some, fa_6 fT (by omega) (by omega), Option.bind_some, tn, z1, fa_6 fT (by omega) (by omega), Option.bind_some, tn, u1, fs_6 fT _ (by omega) (by omega), Option.bind_some, tn, ← hT1, fr_5_0 f1, Option.bind_some, fa_6 f1 (by omega) (by omega), Option.bind_some, tn, i1, chk_ok (by omega) (by omega), Option.bind_some]
      rfl
/-- labels after a and b are one -/
def jl (l : Nat → Nat) (a b : Nat) (y : Nat) : Nat := if l y = (if l a < l b then l b else l a) then (if l a < l b then l a else l b) else l y
theorem Lb.jl {E E' : Nat → Nat → Prop} {N a b : Nat} {l : Nat → Nat} (h : Lb E N l) (ha : a < N) (hb : b < N) (he : ∀ c d, E' c d ↔ E c d ∨ (c = a ∧ d = b)) : Lb E' N (jl l a b) := by
  have mono : ∀ {x y : Nat}, Con E x y → Con E' x y := fun q f hf => q f (fun c d e => hf c d ((he c d).mpr (Or.inl e)))
  have eab : ∀ f : Nat → Nat, (∀ c d, E' c d → f c = f d) → f (l a) = f (l b) := fun f hf => by
    have p := mono (h.1 a ha).2 f hf
    have q := mono (h.1 b hb).2 f hf
    rw [← p, ← q]
    exact hf a b ((he a b).mpr (Or.inr ⟨rfl, rfl⟩))
  refine ⟨fun y hy => ?_, fun c d e => ?_⟩
  · obtain ⟨h1, h2⟩ := h.1 y hy
    unfold Jvm.Pilot.CDesignTreesLaw_law_r7278_6f8192.jl
    by_cases c : l a < l b
    · rw [if_pos c, if_pos c]
      by_cases d : l y = l b
      · rw [if_pos d]
        exact ⟨by omega, fun f hf => by rw [mono h2 f hf, d, eab f hf]⟩
      · rw [if_neg d]
        exact ⟨h1, mono h2⟩
    · rw [if_neg c, if_neg c]
      by_cases d : l y = l a
      · rw [if_pos d]
        exact ⟨by omega, fun f hf => by rw [mono h2 f hf, d, eab f hf]⟩
      · rw [if_neg d]
        exact ⟨h1, mono h2⟩
  · unfold Jvm.Pilot.CDesignTreesLaw_law_r7278_6f8192.jl
    rcases (he c d).mp e with q | ⟨rfl, rfl⟩
    · rw [h.2 c d q]
    · by_cases cc : l c < l d
      · rw [if_pos cc, if_pos cc, if_neg (by omega), if_pos rfl]
      · rw [if_neg cc, if_neg cc, if_pos rfl]
        by_cases dd : l d = l c
        · rw [if_pos dd]
        · rw [if_neg dd]
theorem unite_c {l : Nat → Nat} {N a b : Nat} (hN3 : N ≤ 3000) (hl9 : ∀ y, y < N → l y ≤ y ∧ l (l y) = l y) (ha : a < N) (hb : b < N) {T : AS} (fT : Fix T) (uf : UF (hI T 6) l N) : ∃ T', f_X1_unite (some 5) a b T = some ((0, 0, none), T') ∧ Ch c6 T T' ∧ UF (hI T' 6) (jl l a b) N := by
  obtain ⟨T1, e1, c1, uf1⟩ := firstOf_4 hN3 a T 0 FU ha (by omega) (FU_gt (by omega)) fT uf
  have f1 := c1.fix fT
  obtain ⟨T2, e2, c2, uf2⟩ := firstOf_4 hN3 b T1 0 FU hb (by omega) (FU_gt (by omega)) f1 uf1
  have f2 := c2.fix f1
  have la := hl9 a ha
  have lb := hl9 b hb
  obtain ⟨mx, hmx⟩ : ∃ mx, mx = if l a < l b then l b else l a := ⟨_, rfl⟩
  obtain ⟨mn, hmn⟩ : ∃ mn, mn = if l a < l b then l a else l b := ⟨_, rfl⟩
  have le : mn ≤ mx := by rw [hmx, hmn]; split <;> omega
  have mxN : mx < N := by rw [hmx]; split <;> omega
  have lmx : l mx = mx := by
    rw [hmx]
    split
    · exact lb.2
    · exact la.2
  have lmn : l mn = mn := by
    rw [hmn]
    split
    · exact la.2
    · exact lb.2
  have jle : ∀ y, jl l a b y = if l y = mx then mn else l y := fun y => by rw [hmx, hmn]; rfl
  refine ⟨wI T2 6 mx mn, ?_, (c1.tr c2).wr _ rfl, fun y hy => ?_⟩
  · unfold f_X1_unite
    have e1' : f_X1_firstOf (some 5) a T = some ((0, (l a : Int), none), T1) := e1
    have e2' : f_X1_firstOf (some 5) b T1 = some ((0, (l b : Int), none), T2) := e2
    have q1 : (if (l a : Int) < (l b : Int) then (l b : Int) else (l a : Int)) = (mx : Int) := by
      rw [hmx]
      by_cases c : l a < l b
      · rw [if_pos c, if_pos (by omega)]
      · rw [if_neg c, if_neg (by omega)]
    have q2 : (if (l b : Int) < (l a : Int) then (l b : Int) else (l a : Int)) = (mn : Int) := by
      rw [hmn]
      by_cases c : l a < l b
      · rw [if_pos c, if_neg (by omega)]
      · rw [if_neg c]
        by_cases d : l b < l a
        · rw [if_pos (by omega)]
        · rw [if_neg (by omega)]; omega
    rw [fk_5 fT, gd_1, e1', cI_s, fk_5 f1, gd_1, e2', cI_s, fr_5_0 f2, Option.bind_some, Option.bind_some, Option.bind_some, q1, q2, fs_6 f2 _ (by omega) (by omega), Option.bind_some, tn, rV_s]
  · rw [hI_wI, jle]
    by_cases cy : y = mx
    · rw [if_pos ⟨rfl, cy⟩]
      refine ⟨mn, rfl, by omega, ?_, fun q => ?_⟩
      · rw [jle, lmn, cy, lmx, if_pos rfl]
        split <;> rfl
      · rw [cy, lmx, if_pos rfl]; omega
    · rw [if_neg (by omega)]
      obtain ⟨z, z1, z2, z3, z4⟩ := uf2 y hy
      refine ⟨z, z1, z2, by rw [jle, z3], fun q => ?_⟩
      have := z4 q
      rw [this, if_neg cy]
theorem addNets_7 {N : Nat} {more : Nat} (hN3 : N + more ≤ 3000) (r : Int) : ∀ (d k fu : Nat) (T : AS), more = k + d → d < fu → Fix T → hI T 5 5 = ((N + k : Nat) : Int) → ∃ T', f_X1_addNets_7 fu (some 5) more r k T = some ((0, r, none), T') ∧ Ch (fun a j => (a = 6 ∧ N + k ≤ j ∧ j < N + more) ∨ (a = 5 ∧ j = 5)) T T' ∧ hI T' 5 5 = ((N + more : Nat) : Int) ∧ ∀ y, N + k ≤ y → y < N + more → hI T' 6 y = (y : Int) := by
  intro d
  induction d with
  | zero =>
    intro k fu T hk9 hf fT h5
    obtain ⟨fu, rfl⟩ : ∃ z, fu = z + 1 := ⟨fu - 1, by omega⟩
    refine ⟨T, ?_, Ch.rfl' _ _, by rw [h5]; omega, fun y h1 h2 => by omega⟩
    unfold f_X1_addNets_7
    rw [if_pos (by omega), rI_s]
  | succ d ih =>
    intro k fu T hk9 hf fT h5
    obtain ⟨fu, rfl⟩ : ∃ z, fu = z + 1 := ⟨fu - 1, by omega⟩
    have f1 := fT.wI 6 (N + k) ((N + k : Nat) : Int)
    have i1 : hI (wI T 6 (N + k) ((N + k : Nat) : Int)) 5 5 = ((N + k : Nat) : Int) := by rw [hI_wn (by omega)]; exact h5
    obtain ⟨T1, hT1⟩ : ∃ T1, T1 = wI (wI T 6 (N + k) ((N + k : Nat) : Int)) 5 5 (((N + k : Nat) : Int) + 1) := ⟨_, rfl⟩
    have f2 : Fix T1 := by rw [hT1]; exact f1.wI _ _ _
    obtain ⟨T', e, c', v5, v6⟩ := ih (k + 1) fu T1 (by omega) (by omega) f2 (by rw [hT1, hI_w0]; omega)
    refine ⟨T', ?_, ?_, v5, fun y h1 h2 => ?_⟩
    · refine Eq.trans ?_ e
      conv => lhs; unfold f_X1_addNets_7
      rw [if_neg (by omega), fr_5_0 fT, Option.bind_some, fg_5 fT, Option.bind_some, Option.bind_some, h5, fs_6 fT _ (by omega) (by omega), Option.bind_some, tn, fg_5 f1, Option.bind_some, i1, chk_ok (by omega) (by omega), Option.bind_some, fp_5 f1, Option.bind_some, ← hT1, chk_ok (by omega) (by omega), Option.bind_some]
      rfl
    · refine Ch.tr (T := T1) ?_ (c'.sub (fun a j z => by omega))
      rw [hT1]
      exact ((Ch.rfl' _ _).wr _ (Or.inl ⟨rfl, by omega, by omega⟩)).wr _ (Or.inr ⟨rfl, rfl⟩)
    · by_cases c : y = N + k
      · rw [c'.i (by omega), hT1, hI_wn (by omega), c, hI_w0]
      · exact v6 y (by omega) h2
theorem addNets_eq {N more : Nat} (hN3 : N + more ≤ 3000) {T : AS} (fT : Fix T) (h5 : hI T 5 5 = (N : Int)) : ∃ T', f_X1_addNets (some 5) more T = some ((0, (N : Int), none), T') ∧ Ch (fun a j => (a = 6 ∧ N ≤ j ∧ j < N + more) ∨ (a = 5 ∧ j = 5)) T T' ∧ hI T' 5 5 = ((N + more : Nat) : Int) ∧ ∀ y, N ≤ y → y < N + more → hI T' 6 y = (y : Int) := by
  obtain ⟨T', e, r⟩ := addNets_7 hN3 N more 0 FU T (by omega) (FU_gt (by omega)) fT (by rw [h5]; omega)
  refine ⟨T', ?_, r⟩
  unfold f_X1_addNets
  rw [fg_5 fT, Option.bind_some, h5]
  exact e
/-- the edges stay as the walk grows -/
theorem E1.px {v : WT} (hw : WF G rk x w) (p : Px w v) {i q a b : Nat} (h1 : 1 ≤ i) (hi : i < wn w) : E1 G v i q a b ↔ E1 G w i q a b := by
  obtain ⟨m1, m2, m3, -, -⟩ := p.m hi
  have wp9 := (hw.2.2.1 i hi h1).1
  obtain ⟨n1, -, -, -, -⟩ := p.m (o := wp w i) (by omega)
  unfold E1
  rw [m1, m2, m3, n1, fst_px p _ (by omega), fst_px p _ (by omega)]
theorem Lb.ext {E E' : Nat → Nat → Prop} {N M : Nat} {l : Nat → Nat} (h : Lb E N l) (he : ∀ a b, E' a b ↔ E a b) (hlt : ∀ a b, E a b → a < N ∧ b < N) : Lb E' M (fun y => if y < N then l y else y) := by
  have mono : ∀ {x y : Nat}, Con E x y → Con E' x y := fun q f hf => q f (fun c d e => hf c d ((he c d).mpr e))
  refine ⟨fun y hy => ?_, fun a b e => ?_⟩
  · dsimp only
    by_cases c : y < N
    · rw [if_pos c]
      exact ⟨(h.1 y c).1, mono (h.1 y c).2⟩
    · rw [if_neg c]
      exact ⟨Nat.le_refl _, fun _ _ => rfl⟩
  · have e' := (he a b).mp e
    obtain ⟨z1, z2⟩ := hlt a b e'
    dsimp only
    rw [if_pos z1, if_pos z2]
    exact h.2 a b e'
theorem UF.ext {f g : Nat → Int} {l : Nat → Nat} {N M : Nat} (h : UF f l N) (h1 : ∀ y, y < N → g y = f y) (h2 : ∀ y, N ≤ y → y < M → g y = (y : Int)) : UF g (fun y => if y < N then l y else y) M := fun y hy => by
  dsimp only
  by_cases c : y < N
  · obtain ⟨z, z1, z2, z3, z4⟩ := h y c
    rw [h1 y c, if_pos c]
    exact ⟨z, z1, z2, by rw [if_pos (by omega)]; exact z3, z4⟩
  · rw [h2 y (by omega) hy, if_neg c]
    exact ⟨y, rfl, Nat.le_refl _, by rw [if_neg c], fun _ => rfl⟩
end
