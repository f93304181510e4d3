/-! the class lays out -/
variable {sh ins : Nat → Nat} {pl nt wy : Nat → Nat → Nat} {tg : Nat → Nat × Nat}
section
variable {G : Nat → Nat → Int} {S : AS} {rk : Nat → Nat} {x : Nat} {w : WT}
theorem Ch.sc {X : Nat → Nat → Prop} {T : AS} (h : Ch X S T) (hx : ∀ a j, X a j → 2 ≤ a ∧ a ≤ 13) : Sc S T := by
  obtain ⟨J, rfl, hJ⟩ := h
  exact ⟨⟨rfl, rfl⟩, rfl, rfl, fun a j ha => hJ a j (fun q => by have := hx a j q; omega), fun _ _ _ _ _ => rfl⟩
theorem Sc.fr {T : AS} (h : Sc S T) (hf : Fix S) : Fr S T := ⟨fun a j h1 h2 => h.2.2.2.1 a j (by omega), h.fix hf⟩
theorem uniteOver_15 (C : Cls sh ins pl nt wy tg G S) (gi : GI G) {v : WT} {o k m c N' : Nat} (hm : (m : Int) < G 14 1) (hk9 : (k : Int) < G 18 m) (hc : c = fo G m k) (hv : WF G rk x (eO v c o k)) (mo : wm v o = m) (ho : o < wn v) (h1 : 1 ≤ wn v) (hN : fst G (eO v c o k) (wn (eO v c o k)) = (N' : Int)) (hN3 : N' ≤ 3000) : ∀ (d p fu : Nat) (T : AS) (l : Nat → Nat), np G c 0 = p + d → d < fu → Sc S T → Fix T → UF (hI T 6) l N' → Lb (Ed G (eO v c o k) (wn v) p) N' l → ∃ T' l', f_X1_uniteOver_15 fu (some 5) (some (pl (ins m) k)) (fst G v o) (fst G v (wn v)) (some (ins c + 1)) p T = some ((0, 0, none), T') ∧ Ch c6 T T' ∧ UF (hI T' 6) l' N' ∧ Lb (Ed G (eO v c o k) (wn v) (np G c 0)) N' l' := by
  have fc := (gi.fv hm hk9).2
  rw [← hc] at fc
  have lc := gi.lt fc
  have ni := gi.ni hm
  have px := Px.eO v c o k
  obtain ⟨q1, q2, q3, q4, q5⟩ := eO_n v c o k
  have nO : wn (eO v c o k) = wn v + 1 := rfl
  have om : wm (eO v c o k) o = m := (px.m ho).1.trans mo
  have n1 := np_le gi (j := 0) fc (by have := gi.ni fc; omega)
  have e1 : fst G (eO v c o k) o = fst G v o := fst_px px _ (by omega)
  have e2 : fst G (eO v c o k) (wn v) = fst G v (wn v) := fst_px px _ (Nat.le_refl _)
  intro d
  induction d with
  | zero =>
    intro p fu T l hp hf sc fT uf lb
    obtain ⟨fu, rfl⟩ : ∃ z, fu = z + 1 := ⟨fu - 1, by omega⟩
    have CT := C.kp sc.kp
    have A := CT.pa hm hk9
    unfold PlF at A
    rw [← hc] at A
    have hl1 := A.2.2.2.1.2.2.2
    refine ⟨T, l, ?_, Ch.rfl' _ _, uf, by rw [hp]; exact lb⟩
    have n2 : (np G c 0 : Int) = pc G c := n1.2
    unfold f_X1_uniteOver_15
    rw [c_p2 CT hm hk9, Option.bind_some, ln_at A.2.2.2.1.2.2.1, Option.bind_some, if_pos (by omega), rV_s]
  | succ d ih =>
    intro p fu T l hp hf sc fT uf lb
    obtain ⟨fu, rfl⟩ : ∃ z, fu = z + 1 := ⟨fu - 1, by omega⟩
    have CT := C.kp sc.kp
    have A := CT.pa hm hk9
    unfold PlF at A
    rw [← hc] at A
    have hl1 := A.2.2.2.1.2.2.2
    have n2 : (np G c 0 : Int) = pc G c := n1.2
    have v1 : aI T (some (nt (ins m) k)) 8 p = some (qn G m (k + 1) p) := by
      rw [aI_at A.2.2.2.1.2.2.1 (by omega) (by omega), tn, A.2.2.2.2.2.1 p (by omega), qn_s]
    have B := CT.ia fc
    have v2 : aI T (some (ins c + 1)) 8 p = some (qn G c 0 p) := by
      rw [aI_at B.2.1.2.1 (by omega) (by rw [B.2.2.1.1]; omega), tn, B.2.2.2.2.2 p (by omega)]
      rfl
    have b1 := qn_lt gi hm (j := k + 1) (p := p) (by omega) (by omega)
    have b2 := qn_lt gi fc (j := 0) (p := p) (by omega) (by omega)
    by_cases cn : qn G m (k + 1) p = -1 ∨ qn G c 0 p = -1
    · have lb1 : Lb (Ed G (eO v c o k) (wn v) (p + 1)) N' l := by
        have eq : ∀ a b, Ed G (eO v c o k) (wn v) (p + 1) a b ↔ Ed G (eO v c o k) (wn v) p a b := fun a b => by
          constructor
          · rintro ⟨i, q, h1, h2, h3, h4⟩
            refine ⟨i, q, h1, h2, ?_, h4⟩
            rcases h3 with h3 | ⟨h3, h5⟩
            · exact Or.inl h3
            · refine Or.inr ⟨h3, ?_⟩
              by_cases cq : q = p
              · subst cq
                subst h3
                obtain ⟨-, z2, z3, -⟩ := h4
                rw [q2, q3, om] at z2
                rw [q1] at z3
                exact absurd cn (by omega)
              · omega
          · rintro ⟨i, q, h1, h2, h3, h4⟩
            exact ⟨i, q, h1, h2, by omega, h4⟩
        exact ⟨fun y hy => ⟨(lb.1 y hy).1, fun f hf => (lb.1 y hy).2 f (fun a b e => hf a b ((eq a b).mpr e))⟩, fun a b e => lb.2 a b ((eq a b).mp e)⟩
      obtain ⟨T', l', e, r⟩ := ih (p + 1) fu T l (by omega) (by omega) sc fT uf lb1
      refine ⟨T', l', ?_, r⟩
      refine Eq.trans ?_ e
      conv => lhs; unfold f_X1_uniteOver_15
      rw [c_p2 CT hm hk9, Option.bind_some, ln_at A.2.2.2.1.2.2.1, Option.bind_some, if_neg (by omega), Option.bind_some, v1, Option.bind_some, chk_ok (x := (p : Int) + 1) (by omega) (by omega), v2]
      by_cases cA : qn G m (k + 1) p = -1
      · rw [if_pos cA, Option.bind_some]
        rfl
      · rw [if_neg cA, Option.bind_some, if_pos (cn.resolve_left cA), Option.bind_some]
        rfl
    · have cA : qn G m (k + 1) p ≠ -1 := by omega
      have cB : qn G c 0 p ≠ -1 := by omega
      have fa := fst_in gi hv (o := o) (by omega) (v := qn G m (k + 1) p) (by omega) (by rw [om]; omega)
      have fb := fst_in gi hv (o := wn v) (by omega) (v := qn G c 0 p) (by omega) (by rw [q1]; omega)
      rw [e1, hN] at fa
      rw [e2, hN] at fb
      obtain ⟨a, ha⟩ : ∃ a : Nat, (a : Int) = fst G v o + qn G m (k + 1) p := ⟨(fst G v o + qn G m (k + 1) p).toNat, by omega⟩
      obtain ⟨b, hb⟩ : ∃ b : Nat, (b : Int) = fst G v (wn v) + qn G c 0 p := ⟨(fst G v (wn v) + qn G c 0 p).toNat, by omega⟩
      have ed : E1 G (eO v c o k) (wn v) p a b := by
        unfold E1
        rw [q1, q2, q3, om, e1, e2]
        exact ⟨by omega, cA, cB, ha, hb⟩
      have eq : ∀ a' b', Ed G (eO v c o k) (wn v) (p + 1) a' b' ↔ Ed G (eO v c o k) (wn v) p a' b' ∨ (a' = a ∧ b' = b) := fun a' b' => by
        constructor
        · rintro ⟨i, q, h1, h2, h3, h4⟩
          by_cases cq : i = wn v ∧ q = p
          · obtain ⟨rfl, rfl⟩ := cq
            obtain ⟨-, -, -, z4, z5⟩ := h4
            obtain ⟨-, -, -, y4, y5⟩ := ed
            exact Or.inr ⟨by omega, by omega⟩
          · exact Or.inl ⟨i, q, h1, h2, by omega, h4⟩
        · rintro (⟨i, q, h1, h2, h3, h4⟩ | ⟨rfl, rfl⟩)
          · exact ⟨i, q, h1, h2, by omega, h4⟩
          · exact ⟨wn v, p, h1, by omega, Or.inr ⟨rfl, by omega⟩, ed⟩
      obtain ⟨T1, eU, c1, uf1⟩ := unite_c hN3 (fun y hy => ⟨(lb.1 y hy).1, lb.id hy⟩) (a := a) (b := b) (by omega) (by omega) fT uf
      have lb1 := lb.jl (a := a) (b := b) (by omega) (by omega) eq
      have sc1 : Sc T T1 := c1.sc (fun a j q => by unfold c6 at q; omega)
      obtain ⟨T', l', e, c', r⟩ := ih (p + 1) fu T1 _ (by omega) (by omega) (sc.tr sc1) (c1.fix fT) uf1 lb1
      refine ⟨T', l', ?_, c1.tr c', r⟩
      refine Eq.trans ?_ e
      conv => lhs; unfold f_X1_uniteOver_15
      rw [c_p2 CT hm hk9, Option.bind_some, ln_at A.2.2.2.1.2.2.1, Option.bind_some, if_neg (by omega), Option.bind_some, v1, Option.bind_some, if_neg cA, v2, Option.bind_some, if_neg cB, Option.bind_some, v1, Option.bind_some, ← ha, chk_ok (by omega) (by omega), Option.bind_some, Option.bind_some, ← hb, chk_ok (by omega) (by omega), Option.bind_some, fk_5 fT, gd_1, eU, cV_s, chk_ok (by omega) (by omega), Option.bind_some]
      rfl
theorem copyOf_eq {T : AS} {D : Nat} (fT : Fix T) (hD : D ≤ 23) (h39 : 39 ≤ hn T) (h1 : hn T < CM) (h2 : hu T + 24 ≤ UM) : ∃ T', f_J7_copyOf_59c91 (some 7) ((D : Int) + 1) T = some ((0, 0, some (hn T)), T') ∧ (hn T' = hn T + 1 ∧ hu T' ≤ hu T + 24) ∧ (∀ y, y ≠ hn T → Od y T T') ∧ (hk T' (hn T) = 8 ∧ hl T' (hn T) = D + 1) ∧ ∀ u, u ≤ D → hI T' (hn T) u = hI T 7 u := by
  have k7 : hk T 7 = 8 := fT.kd (by decide)
  have l7 : hl T 7 = 24 := fT.ln (by decide)
  unfold f_J7_copyOf_59c91
  rw [ln_at k7, Option.bind_some, l7]
  by_cases c : D = 23
  · subst c
    refine ⟨wK T 7, ?_, ⟨by rw [hn_wK], by rw [hu_wK, l7]; omega⟩, fun y hy => Od.k hy, ⟨by rw [hk_wK, if_pos rfl], by rw [hl_wK, if_pos rfl, l7]⟩, fun u _ => by rw [hI_wK, if_pos rfl]⟩
    rw [if_pos (by omega), kln_ok k7 h1 (by rw [l7]; exact h2), Option.bind_some, isK_at (by rw [hk_wK, if_pos rfl]), gd_1, rR_s]
  · obtain ⟨V, hV⟩ : ∃ V, V = wN T 8 (D + 1) (D + 1) := ⟨_, rfl⟩
    have kV : hk V 7 = 8 := by rw [hV, hk_wN, if_neg (by omega)]; exact k7
    have lV : hl V 7 = 24 := by rw [hV, hl_wN, if_neg (by omega)]; exact l7
    have kn : hk V (hn T) = 8 := by rw [hV, hk_wN, if_pos rfl]
    have ln9 : hl V (hn T) = D + 1 := by rw [hV, hl_wN, if_pos rfl]
    refine ⟨wC V 7 (hn T) 0 0 (D + 1), ?_, ⟨by rw [hn_wC, hV, hn_wN], by rw [hu_wC, hV, hu_wN]; omega⟩, fun y hy => by rw [hV]; exact (Od.n hy).tr (Od.c hy), ⟨by rw [hk_wC]; exact kn, by rw [hl_wC]; exact ln9⟩, fun u hu9 => ?_⟩
    · rw [if_neg (by omega), nA_ok (by omega) h1 (by omega), Option.bind_some, show ((D : Int) + 1).toNat = D + 1 by omega, ← hV, ln_at kV, Option.bind_some, lV, Option.bind_some, if_pos (by omega), show (D : Int) + 1 = ((D + 1 : Nat) : Int) by omega, cpy_ok kV kn (by rw [lV]; omega) (by rw [ln9]; exact Nat.le_refl _), Option.bind_some, rR_s]
    · rw [hI_wC, if_pos (by omega), show 0 + (u - 0) = u by omega, hV, hI_wN, if_neg (by omega)]
/-- one leaf in the layout -/
def Lq (G : Nat → Nat → Int) (ins : Nat → Nat) (pl : Nat → Nat → Nat) (s : Nat) (T : AS) (w : WT) (q : Nat) : Prop := hR T 8 q = some (pl (ins (wm w (wo w q))) (wj w q)) ∧ hI T 9 q = fst G w (wo w q) ∧ hR T 10 q = some (s + q) ∧ (hk T (s + q) = 8 ∧ hl T (s + q) = wd w (wo w q) + 1) ∧ ∀ u, u ≤ wd w (wo w q) → hI T (s + q) u = (wyf w q u : Int)
/-- the class shows the walk -/
def CW (G : Nat → Nat → Int) (ins : Nat → Nat) (pl : Nat → Nat → Nat) (S T : AS) (w : WT) (l : Nat → Nat) : Prop := (Kp S T ∧ Fr S T) ∧ (hn T = hn S + wl w ∧ hu T ≤ hu S + 24 * wl w) ∧ (hI T 5 5 = fst G w (wn w) ∧ hI T 5 6 = (wl w : Int)) ∧ (∀ q, q < wl w → Lq G ins pl (hn S) T w q) ∧ UF (hI T 6) l (fst G w (wn w)).toNat ∧ Lb (EE G w) (fst G w (wn w)).toNat l
theorem Lq.px {s : Nat} {T : AS} {v : WT} (hw : WF G rk x w) (p : Px w v) {q : Nat} (hq : q < wl w) (h : Lq G ins pl s T w q) : Lq G ins pl s T v q := by
  obtain ⟨e1, e2⟩ := p.l hq
  have oq := (hw.2.2.2 q hq).1
  obtain ⟨m1, m2, m3, m4, m5⟩ := p.m oq
  unfold Lq wyf
  rw [e1, e2, m1, m4, m5, fst_px p _ (by omega)]
  exact h
theorem Lq.ch {s : Nat} {T T' : AS} {X : Nat → Nat → Prop} (c : Ch X T T') (hx : ∀ a j, X a j → a < 9) (hs39 : 39 ≤ s) {q : Nat} (h : Lq G ins pl s T w q) : Lq G ins pl s T' w q := by
  obtain ⟨h1, h2, h3, h4, h5⟩ := h
  have e9 := c.i (a := 9) (j := q) (fun z => by have := hx _ _ z; omega)
  have es : ∀ u, hI T' (s + q) u = hI T (s + q) u := fun u => c.i (fun z => by have := hx _ _ z; omega)
  obtain ⟨J, rfl, -⟩ := c
  exact ⟨h1, by rw [e9]; exact h2, h3, h4, fun u hu9 => by rw [es]; exact h5 u hu9⟩
theorem addLeaf_eq (C : Cls sh ins pl nt wy tg G S) (hs : Stt S) (gi : GI G) (hw : WF G rk x w) {o k : Nat} {l : Nat → Nat} {T : AS} (cw : CW G ins pl S T w l) (ho : o < wn w) (hk9 : (k : Int) < G 18 (wm w o)) (h64 : wl w < 64) (h7 : ∀ u, u ≤ wd w o → hI T 7 u = if u = wd w o then (k : Int) else (ww w o u : Int)) : ∃ T', f_X1_addLeaf (some 5) (some (pl (ins (wm w o)) k)) (fst G w o) ((wd w o : Int) + 1) T = some ((0, 0, none), T') ∧ CW G ins pl S T' (eL w o k) l ∧ ∀ u, hI T' 7 u = hI T 7 u := by
  obtain ⟨⟨kp, fr⟩, ⟨hn9, hu9⟩, ⟨i5, i6⟩, lq, uf, lb⟩ := cw
  have fT := fr.2
  have hm := (hw.2.1 o ho).1
  have D23 : wd w o ≤ 23 := by have := (hw.2.1 o ho).2; omega
  have CT := C.kp kp
  have A := CT.pa hm hk9
  have rm := hs.2.2
  obtain ⟨q, hq⟩ : ∃ q, q = wl w := ⟨_, rfl⟩
  rw [← hq] at hn9 hu9 i6 lq h64
  have nr8 : ∀ (a j : Nat), (a = 8 ∨ a = 10) → ∀ r ∈ rT, r.1 ≠ a ∨ r.2.1 ≠ j := fun a j ha r hr => Or.inl (by
    have z : ∀ r ∈ rT, r.1 ≠ 8 ∧ r.1 ≠ 10 := by decide
    have := z r hr
    omega)
  obtain ⟨T1, hT1⟩ : ∃ T1, T1 = wI (wR T 8 q (some (pl (ins (wm w o)) k))) 9 q (fst G w o) := ⟨_, rfl⟩
  have f0 : Fix (wR T 8 q (some (pl (ins (wm w o)) k))) := fT.wR _ (nr8 8 q (Or.inl rfl))
  have f1 : Fix T1 := by rw [hT1]; exact f0.wI _ _ _
  have n1 : hn T1 = hn S + q := by rw [hT1]; exact hn9
  have u1 : hu T1 = hu T := by rw [hT1]; rfl
  have j6 : hI T1 5 6 = (q : Int) := by rw [hT1, hI_wn (by omega)]; exact i6
  obtain ⟨T2, e2, ⟨n2, u2⟩, od2, k2, v2⟩ := copyOf_eq (D := wd w o) f1 D23 (by rw [n1]; have := hs.2.1; omega) (by rw [n1]; have := rm.1; omega) (by rw [u1]; have := rm.2; omega)
  have f2 : Fix T2 := ⟨fun b hb => by rw [(od2 b (by rw [n1]; have := hs.2.1; omega)).1, (od2 b (by rw [n1]; have := hs.2.1; omega)).2.1]; exact f1.1 b hb, fun r hr => by
    have z : ∀ r ∈ rT, r.1 < 39 := by decide
    rw [(od2 r.1 (by rw [n1]; have := hs.2.1; have := z r hr; omega)).2.2.2]
    exact f1.2 r hr⟩
  rw [n1] at e2 n2 od2 k2 v2
  rw [u1] at u2
  obtain ⟨T3, hT3⟩ : ∃ T3, T3 = wR T2 10 q (some (hn S + q)) := ⟨_, rfl⟩
  have f3 : Fix T3 := by rw [hT3]; exact f2.wR _ (nr8 10 q (Or.inr rfl))
  have h39 := hs.2.1
  have j63 : hI T3 5 6 = (q : Int) := by rw [hT3, hI_wR, (od2 5 (by omega)).2.2.1]; exact j6
  have oT1 : ∀ y, y ≠ 8 → y ≠ 9 → Od y T T1 := fun y h8 h9 => by rw [hT1]; exact (Od.r h8).tr (Od.w h9)
  have oT : ∀ y, y ≠ 8 → y ≠ 9 → y ≠ 10 → y ≠ 5 → y ≠ hn S + q → Od y T (wI T3 5 6 ((q : Int) + 1)) := fun y h8 h9 h10 h5 hy => by
    refine (((oT1 y h8 h9).tr (od2 y hy)).tr ?_).tr (Od.w h5)
    rw [hT3]
    exact Od.r h10
  have r8 : ∀ j, hR (wI T3 5 6 ((q : Int) + 1)) 8 j = if j = q then some (pl (ins (wm w o)) k) else hR T 8 j := fun j => by
    rw [hR_wI, hT3, hR_wR, if_neg (by omega), (od2 8 (by omega)).2.2.2, hT1, hR_wI, hR_wR]
    by_cases c : j = q
    · rw [if_pos ⟨rfl, c⟩, if_pos c]
    · rw [if_neg (by omega), if_neg c]
  have r10 : ∀ j, hR (wI T3 5 6 ((q : Int) + 1)) 10 j = if j = q then some (hn S + q) else hR T 10 j := fun j => by
    rw [hR_wI, hT3, hR_wR]
    by_cases c : j = q
    · rw [if_pos ⟨rfl, c⟩, if_pos c]
    · rw [if_neg (by omega), if_neg c, (od2 10 (by omega)).2.2.2, hT1, hR_wI, hR_wR, if_neg (by omega)]
  have i9 : ∀ j, hI (wI T3 5 6 ((q : Int) + 1)) 9 j = if j = q then fst G w o else hI T 9 j := fun j => by
    rw [hI_wn (by omega), hT3, hI_wR, (od2 9 (by omega)).2.2.1, hT1, hI_wI]
    by_cases c : j = q
    · rw [if_pos ⟨rfl, c⟩, if_pos c]
    · rw [if_neg (by omega), if_neg c]; rfl
  have fl9 : hI T1 7 = hI T 7 := by rw [hT1]; funext u; rw [hI_wn (by omega)]; rfl
  have eN : wn (eL w o k) = wn w := rfl
  have eF : fst G (eL w o k) (wn (eL w o k)) = fst G w (wn w) := fst_px (Px.eL w o k) _ (Nat.le_refl _)
  refine ⟨wI T3 5 6 ((q : Int) + 1), ?_, ⟨⟨?_, ?_⟩, ⟨?_, ?_⟩, ⟨?_, ?_⟩, fun r hr => ?_, ?_, ?_⟩, fun u => ?_⟩
  · unfold f_X1_addLeaf
    have kP : hk T (pl (ins (wm w o)) k) = ek 10 := A.2.1.2.2
    have kW : hk T2 (hn S + q) = ek 12 := k2.1
    have z0 : hI (wR T 8 q (some (pl (ins (wm w o)) k))) 5 6 = (q : Int) := i6
    rw [fr_5_2 fT, Option.bind_some, fg_5 fT, Option.bind_some, i6, fs_8 fT (by omega) (by omega) kP, Option.bind_some, tn, fr_5_3 f0, Option.bind_some, fg_5 f0, Option.bind_some, z0, fs_9 f0 _ (by omega) (by omega), Option.bind_some, tn, ← hT1, fr_5_4 f1, Option.bind_some, fg_5 f1, Option.bind_some, j6, fr_5_1 f1, Option.bind_some, e2, cR_s, fs_10 f2 (by omega) (by omega) kW, Option.bind_some, tn, ← hT3, fg_5 f3, Option.bind_some, j63, chk_ok (by omega) (by omega), Option.bind_some, fp_5 f3, Option.bind_some, rV_s]
  · refine kp.tr ⟨?_, fun y h1 h2 => oT y (by omega) (by omega) (by omega) (by omega) (by omega), ?_, fun j => ?_⟩
    · show hn T ≤ hn T3
      rw [hT3, hn_wR, n2]; omega
    · exact (oT 0 (by omega) (by omega) (by omega) (by omega) (by omega)).2.2.1 1
    · exact (oT 1 (by omega) (by omega) (by omega) (by omega) (by omega)).2.2.2 j
  · exact fr.tr ⟨fun a j h1 h2 => (oT a (by omega) (by omega) (by omega) (by omega) (by omega)).2.2.1 j, f3.wI _ _ _⟩
  · show hn T3 = hn S + (wl w + 1)
    rw [hT3, hn_wR, n2]; omega
  · show hu T3 ≤ hu S + 24 * (wl w + 1)
    rw [hT3, hu_wR]; omega
  · rw [eF, hI_wn (by omega), hT3, hI_wR, (od2 5 (by omega)).2.2.1, hT1, hI_wn (by omega)]; exact i5
  · rw [hI_w0]
    show (q : Int) + 1 = ((wl w + 1 : Nat) : Int)
    omega
  · have hr' : r < wl w + 1 := hr
    by_cases c : r = q
    · subst c
      obtain ⟨e1, e2'⟩ := eL_n w o k
      rw [← hq] at e1 e2'
      obtain ⟨m1, -, -, m4, m5⟩ := (Px.eL w o k).m ho
      have on : hI (wI T3 5 6 ((r : Int) + 1)) (hn S + r) = hI T2 (hn S + r) := by
        funext u
        rw [hI_wn (by omega), hT3, hI_wR]
      unfold Lq wyf
      rw [e1, e2', m1, m4, m5, fst_px (Px.eL w o k) _ (by omega), r8, if_pos rfl, i9, if_pos rfl, r10, if_pos rfl]
      refine ⟨rfl, rfl, rfl, ⟨by rw [hk_wI, hT3, hk_wR]; exact k2.1, by rw [hl_wI, hT3, hl_wR]; exact k2.2⟩, fun u hu7 => ?_⟩
      rw [on, v2 u hu7, fl9, h7 u hu7]
      split <;> rfl
    · have lr := (lq r (by omega)).px hw (Px.eL w o k) (by omega)
      obtain ⟨a1, a2, a3, a4, a5⟩ := lr
      have od := oT (hn S + r) (by omega) (by omega) (by omega) (by omega) (by omega)
      exact ⟨by rw [r8, if_neg c]; exact a1, by rw [i9, if_neg c]; exact a2, by rw [r10, if_neg c]; exact a3, by rw [od.1, od.2.1]; exact a4, fun u hu7 => by rw [od.2.2.1]; exact a5 u hu7⟩
  · rw [eF]
    have : hI (wI T3 5 6 ((q : Int) + 1)) 6 = hI T 6 := funext (oT 6 (by omega) (by omega) (by omega) (by omega) (by omega)).2.2.1
    rw [this]; exact uf
  · rw [eF]
    have eq : ∀ a b, EE G (eL w o k) a b ↔ EE G w a b := fun a b => by
      constructor
      · rintro ⟨i, q, h1, h2, h3, h4⟩
        exact ⟨i, q, h1, h2, h3, (E1.px hw (Px.eL w o k) h1 h2).mp h4⟩
      · rintro ⟨i, q, h1, h2, h3, h4⟩
        exact ⟨i, q, h1, h2, h3, (E1.px hw (Px.eL w o k) h1 h2).mpr h4⟩
    exact ⟨fun y hy => ⟨(lb.1 y hy).1, fun f hf => (lb.1 y hy).2 f (fun a b e => hf a b ((eq a b).mpr e))⟩, fun a b e => lb.2 a b ((eq a b).mp e)⟩
  · exact (oT 7 (by omega) (by omega) (by omega) (by omega) (by omega)).2.2.1 u
end
