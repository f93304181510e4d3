/-! the walk down from a module: occurrences (module, parent, instance, depth, way) and leaves (occurrence, instance) -/
def WT : Type := (Nat × (Nat → Nat × Nat × Nat × Nat × (Nat → Nat))) × (Nat × (Nat → Nat × Nat))
def wn (w : WT) : Nat := w.1.1
def wm (w : WT) (o : Nat) : Nat := (w.1.2 o).1
def wp (w : WT) (o : Nat) : Nat := (w.1.2 o).2.1
def wi (w : WT) (o : Nat) : Nat := (w.1.2 o).2.2.1
def wd (w : WT) (o : Nat) : Nat := (w.1.2 o).2.2.2.1
def ww (w : WT) (o t : Nat) : Nat := (w.1.2 o).2.2.2.2 t
def wl (w : WT) : Nat := w.2.1
def wo (w : WT) (l : Nat) : Nat := (w.2.2 l).1
def wj (w : WT) (l : Nat) : Nat := (w.2.2 l).2
def eL (w : WT) (o k : Nat) : WT := (w.1, (wl w + 1, fun l => if l = wl w then (o, k) else w.2.2 l))
def eO (w : WT) (c o k : Nat) : WT := ((wn w + 1, fun x => if x = wn w then (c, o, k, wd w o + 1, fun t => if t = wd w o then k else ww w o t) else w.1.2 x), w.2)
def w0 (m : Nat) : WT := ((1, fun _ => (m, 0, 0, 0, fun _ => 0)), (0, fun _ => (0, 0)))
def wkI (G : Nat → Nat → Int) (rc : Nat → Nat → WT → WT) (o m : Nat) : Nat → WT → WT
  | 0, w => w
  | k + 1, w => if G 18 (fo G m k) = 0 then eL (wkI G rc o m k w) o k else rc (wn (wkI G rc o m k w)) (fo G m k) (eO (wkI G rc o m k w) (fo G m k) o k)
def wk (G : Nat → Nat → Int) : Nat → Nat → Nat → WT → WT
  | 0, _, _, w => w
  | n + 1, o, m, w => wkI G (wk G n) o m (G 18 m).toNat w
/-- w begins v -/
def Px (w v : WT) : Prop := wn w ≤ wn v ∧ wl w ≤ wl v ∧ (∀ o, o < wn w → v.1.2 o = w.1.2 o) ∧ ∀ l, l < wl w → v.2.2 l = w.2.2 l
theorem Px.rfl' (w : WT) : Px w w := ⟨Nat.le_refl _, Nat.le_refl _, fun _ _ => rfl, fun _ _ => rfl⟩
theorem Px.tr {u v w : WT} (h : Px u v) (g : Px v w) : Px u w := ⟨Nat.le_trans h.1 g.1, Nat.le_trans h.2.1 g.2.1, fun o ho => (g.2.2.1 o (Nat.lt_of_lt_of_le ho h.1)).trans (h.2.2.1 o ho), fun o ho => (g.2.2.2 o (Nat.lt_of_lt_of_le ho h.2.1)).trans (h.2.2.2 o ho)⟩
theorem Px.m {w v : WT} (h : Px w v) {o : Nat} (ho : o < wn w) : wm v o = wm w o ∧ wp v o = wp w o ∧ wi v o = wi w o ∧ wd v o = wd w o ∧ ww v o = ww w o := by
  have e := h.2.2.1 o ho
  unfold wm wp wi wd
  refine ⟨by rw [e], by rw [e], by rw [e], by rw [e], ?_⟩
  funext t
  unfold ww
  rw [e]
theorem Px.l {w v : WT} (h : Px w v) {l : Nat} (hl9 : l < wl w) : wo v l = wo w l ∧ wj v l = wj w l := by
  have e := h.2.2.2 l hl9
  unfold wo wj
  exact ⟨by rw [e], by rw [e]⟩
theorem Px.eL (w : WT) (o k : Nat) : Px w (eL w o k) := ⟨Nat.le_refl _, Nat.le_succ _, fun _ _ => rfl, fun l hl9 => if_neg (by omega)⟩
theorem Px.eO (w : WT) (c o k : Nat) : Px w (eO w c o k) := ⟨Nat.le_succ _, Nat.le_refl _, fun l hl9 => if_neg (by omega), fun _ _ => rfl⟩
theorem eO_n (w : WT) (c o k : Nat) : wm (eO w c o k) (wn w) = c ∧ wp (eO w c o k) (wn w) = o ∧ wi (eO w c o k) (wn w) = k ∧ wd (eO w c o k) (wn w) = wd w o + 1 ∧ ∀ t, ww (eO w c o k) (wn w) t = if t = wd w o then k else ww w o t := by
  have e : (eO w c o k).1.2 (wn w) = (c, o, k, wd w o + 1, fun t => if t = wd w o then k else ww w o t) := if_pos rfl
  unfold wm wp wi wd
  refine ⟨by rw [e], by rw [e], by rw [e], by rw [e]; rfl, fun t => ?_⟩
  show ((eO w c o k).1.2 (wn w)).2.2.2.2 t = _
  rw [e]
  rfl
theorem eL_n (w : WT) (o k : Nat) : wo (eL w o k) (wl w) = o ∧ wj (eL w o k) (wl w) = k := by
  have e : (eL w o k).2.2 (wl w) = (o, k) := if_pos rfl
  unfold wo wj
  exact ⟨by rw [e], by rw [e]⟩
section
variable {G : Nat → Nat → Int} {S : AS}
def WF (G : Nat → Nat → Int) (rk : Nat → Nat) (x : Nat) (w : WT) : Prop :=
  (1 ≤ wn w ∧ wm w 0 = x ∧ wd w 0 = 0) ∧
  (∀ o, o < wn w → (wm w o : Int) < G 14 1 ∧ wd w o + rk (wm w o) ≤ 23) ∧
  (∀ o, o < wn w → 1 ≤ o → wp w o < o ∧ (wi w o : Int) < G 18 (wm w (wp w o)) ∧ wm w o = fo G (wm w (wp w o)) (wi w o) ∧ wd w o = wd w (wp w o) + 1 ∧ G 18 (wm w o) ≠ 0 ∧ ∀ t, ww w o t = if t = wd w (wp w o) then wi w o else ww w (wp w o) t) ∧
  ∀ l, l < wl w → wo w l < wn w ∧ (wj w l : Int) < G 18 (wm w (wo w l)) ∧ G 18 (fo G (wm w (wo w l)) (wj w l)) = 0
variable {rk : Nat → Nat} {x : Nat}
theorem WF.l {w : WT} (h : WF G rk x w) {o k : Nat} (ho : o < wn w) (hk9 : (k : Int) < G 18 (wm w o)) (hz : G 18 (fo G (wm w o) k) = 0) : WF G rk x (eL w o k) := by
  refine ⟨h.1, h.2.1, h.2.2.1, fun l hl9 => ?_⟩
  have hl' : l < wl w + 1 := hl9
  by_cases c : l = wl w
  · subst c
    obtain ⟨e1, e2⟩ := eL_n w o k
    rw [e1, e2]
    exact ⟨ho, hk9, hz⟩
  · obtain ⟨e1, e2⟩ := (Px.eL w o k).l (l := l) (by omega)
    rw [e1, e2]
    exact h.2.2.2 l (by omega)
theorem WF.o {w : WT} (h : WF G rk x w) (gi : GI G) (r2 : ∀ i k : Nat, (i : Int) < G 14 1 → (k : Int) < G 18 i → rk (fo G i k) < rk i) {o k : Nat} (ho : o < wn w) (hk9 : (k : Int) < G 18 (wm w o)) (hz : G 18 (fo G (wm w o) k) ≠ 0) : WF G rk x (eO w (fo G (wm w o) k) o k) := by
  have p := Px.eO w (fo G (wm w o) k) o k
  obtain ⟨e1, e2, e3, e4, e5⟩ := eO_n w (fo G (wm w o) k) o k
  have h1 := h.1
  have hn9 : wn (eO w (fo G (wm w o) k) o k) = wn w + 1 := rfl
  obtain ⟨z1, -, -, z4, -⟩ := p.m (o := 0) (by omega)
  refine ⟨⟨by omega, by rw [z1]; exact h1.2.1, by rw [z4]; exact h1.2.2⟩, fun y hy => ?_, fun y hy hy1 => ?_, fun l hl9 => ?_⟩
  · by_cases c : y = wn w
    · subst c
      rw [e1, e4]
      have m1 := h.2.1 o ho
      have := r2 _ k m1.1 hk9
      exact ⟨(gi.fv m1.1 hk9).2, by omega⟩
    · obtain ⟨q1, -, -, q4, -⟩ := p.m (o := y) (by omega)
      rw [q1, q4]
      exact h.2.1 y (by omega)
  · by_cases c : y = wn w
    · subst c
      obtain ⟨q1, -, -, q4, q5⟩ := p.m (o := o) ho
      rw [e1, e2, e3, e4, q1, q4]
      refine ⟨ho, hk9, rfl, rfl, hz, fun t => ?_⟩
      rw [e5, q5]
    · obtain ⟨a1, a2, a3, a4, a5, a6⟩ := h.2.2.1 y (by omega) hy1
      obtain ⟨q1, q2, q3, q4, q5⟩ := p.m (o := y) (by omega)
      obtain ⟨s1, -, -, s4, s5⟩ := p.m (o := wp w y) (by omega)
      rw [q1, q2, q3, q4, q5, s1, s4, s5]
      exact ⟨a1, a2, a3, a4, a5, a6⟩
  · have hl' : l < wl w := hl9
    obtain ⟨a1, a2, a3⟩ := h.2.2.2 l hl'
    obtain ⟨q1, q2⟩ := p.l (l := l) hl'
    obtain ⟨s1, -, -, -, -⟩ := p.m (o := wo w l) a1
    rw [q1, q2, s1]
    exact ⟨by omega, a2, a3⟩
/-- leaves, and nets of occurrences, below a module -/
def clI (G : Nat → Nat → Int) (f : Nat → Nat) (m : Nat) : Nat → Nat
  | 0 => 0
  | k + 1 => clI G f m k + (if G 18 (fo G m k) = 0 then 1 else f (fo G m k))
def cl (G : Nat → Nat → Int) : Nat → Nat → Nat
  | 0, _ => 0
  | n + 1, m => clI G (cl G n) m (G 18 m).toNat
def cnI (G : Nat → Nat → Int) (f : Nat → Int) (m : Nat) : Nat → Int
  | 0 => 0
  | k + 1 => cnI G f m k + (if G 18 (fo G m k) = 0 then 0 else G 20 (fo G m k) + f (fo G m k))
def cn (G : Nat → Nat → Int) : Nat → Nat → Int
  | 0, _ => 0
  | n + 1, m => cnI G (cn G n) m (G 18 m).toNat
/-- where an occurrence's nets begin -/
def fst (G : Nat → Nat → Int) (w : WT) : Nat → Int
  | 0 => 0
  | o + 1 => fst G w o + G 20 (wm w o)
theorem fst_px {w v : WT} (h : Px w v) : ∀ o, o ≤ wn w → fst G v o = fst G w o := by
  intro o
  induction o with
  | zero => intro _; rfl
  | succ o ih =>
    intro ho
    simp only [fst]
    rw [ih (by omega), (h.m (o := o) (by omega)).1]
/-- what the walk gives -/
def WO (G : Nat → Nat → Int) (rk : Nat → Nat) (x : Nat) (w v : WT) (c : Nat) (d : Int) : Prop := Px w v ∧ WF G rk x v ∧ wl v = wl w + c ∧ fst G v (wn v) = fst G w (wn w) + d
theorem wkI_ok (gi : GI G) (r2 : ∀ i k : Nat, (i : Int) < G 14 1 → (k : Int) < G 18 i → rk (fo G i k) < rk i) {n : Nat} (ih : ∀ (o m : Nat) (w : WT), WF G rk x w → o < wn w → wm w o = m → rk m < n → WO G rk x w (wk G n o m w) (cl G n m) (cn G n m)) {o m : Nat} {w : WT} (hw : WF G rk x w) (ho : o < wn w) (hm : wm w o = m) (hr : rk m < n + 1) : ∀ k : Nat, (k : Int) ≤ G 18 m → WO G rk x w (wkI G (wk G n) o m k w) (clI G (cl G n) m k) (cnI G (cn G n) m k) := by
  intro k
  induction k with
  | zero => intro _; exact ⟨Px.rfl' w, hw, rfl, (Int.add_zero _).symm⟩
  | succ k ihk =>
    intro hk9
    obtain ⟨p, f, l, s⟩ := ihk (by omega)
    obtain ⟨v, hv⟩ : ∃ v, v = wkI G (wk G n) o m k w := ⟨_, rfl⟩
    rw [← hv] at p f l s
    have mv : wm v o = m := (p.m ho).1.trans hm
    have ov : o < wn v := Nat.lt_of_lt_of_le ho p.1
    have hmm : (m : Int) < G 14 1 := by rw [← hm]; exact (hw.2.1 o ho).1
    simp only [wkI, clI, cnI, ← hv]
    by_cases c : G 18 (fo G m k) = 0
    · rw [if_pos c, if_pos c, if_pos c]
      refine ⟨p.tr (Px.eL v o k), f.l ov (by rw [mv]; omega) (by rw [mv]; exact c), ?_, ?_⟩
      · show wl v + 1 = _
        omega
      · have : fst G (eL v o k) (wn v) = fst G v (wn v) := fst_px (Px.eL v o k) _ (Nat.le_refl _)
        show fst G (eL v o k) (wn v) = _
        rw [this, s]
        omega
    · rw [if_neg c, if_neg c, if_neg c]
      have f2 : WF G rk x (eO v (fo G m k) o k) := by
        have := f.o gi r2 (o := o) (k := k) ov (by rw [mv]; omega) (by rw [mv]; exact c)
        rw [mv] at this
        exact this
      have e1 := (eO_n v (fo G m k) o k).1
      have rr := r2 m k hmm (by omega)
      obtain ⟨p2, f3, l2, s2⟩ := ih (wn v) (fo G m k) (eO v (fo G m k) o k) f2 (Nat.lt_succ_self _) e1 (by omega)
      refine ⟨(p.tr (Px.eO v (fo G m k) o k)).tr p2, f3, ?_, ?_⟩
      · rw [l2]
        show wl v + _ = _
        omega
      · have : fst G (eO v (fo G m k) o k) (wn v) = fst G v (wn v) := fst_px (Px.eO v (fo G m k) o k) _ (Nat.le_refl _)
        have e2 : fst G (eO v (fo G m k) o k) (wn (eO v (fo G m k) o k)) = fst G (eO v (fo G m k) o k) (wn v) + G 20 (wm (eO v (fo G m k) o k) (wn v)) := rfl
        rw [s2, e2, this, e1, s]
        omega
theorem wk_ok (gi : GI G) (r2 : ∀ i k : Nat, (i : Int) < G 14 1 → (k : Int) < G 18 i → rk (fo G i k) < rk i) : ∀ (n o m : Nat) (w : WT), WF G rk x w → o < wn w → wm w o = m → rk m < n → WO G rk x w (wk G n o m w) (cl G n m) (cn G n m) := by
  intro n
  induction n with
  | zero => intro o m w _ _ _ h; omega
  | succ n ih =>
    intro o m w hw ho hm hr
    have hmm : (m : Int) < G 14 1 := by rw [← hm]; exact (hw.2.1 o ho).1
    have ni := gi.ni hmm
    exact wkI_ok gi r2 ih hw ho hm hr (G 18 m).toNat (by omega)
theorem wkI_up (gi : GI G) (r2 : ∀ i k : Nat, (i : Int) < G 14 1 → (k : Int) < G 18 i → rk (fo G i k) < rk i) {n o m : Nat} {w : WT} (hw : WF G rk x w) (ho : o < wn w) (hm : wm w o = m) (hr : rk m < n + 1) : ∀ d k : Nat, ((k + d : Nat) : Int) ≤ G 18 m → Px (wkI G (wk G n) o m k w) (wkI G (wk G n) o m (k + d) w) := by
  intro d
  induction d with
  | zero => intro k _; exact Px.rfl' _
  | succ d ih =>
    intro k hk9
    refine (ih k (by omega)).tr ?_
    have hmm : (m : Int) < G 14 1 := by rw [← hm]; exact (hw.2.1 o ho).1
    obtain ⟨p, f, l, s⟩ := wkI_ok gi r2 (fun o m w a b c d => wk_ok gi r2 n o m w a b c d) hw ho hm hr (k + d) (by omega)
    rw [show k + (d + 1) = k + d + 1 by omega]
    simp only [wkI]
    obtain ⟨v, hv⟩ : ∃ v, v = wkI G (wk G n) o m (k + d) w := ⟨_, rfl⟩
    rw [← hv] at p f ⊢
    have mv : wm v o = m := (p.m ho).1.trans hm
    have ov : o < wn v := Nat.lt_of_lt_of_le ho p.1
    by_cases c : G 18 (fo G m (k + d)) = 0
    · rw [if_pos c]; exact Px.eL _ _ _
    · rw [if_neg c]
      have f2 : WF G rk x (eO v (fo G m (k + d)) o (k + d)) := by
        have := f.o gi r2 (o := o) (k := k + d) ov (by rw [mv]; omega) (by rw [mv]; exact c)
        rw [mv] at this
        exact this
      have rr := r2 m (k + d) hmm (by omega)
      exact (Px.eO _ _ _ _).tr (wk_ok gi r2 n _ _ _ f2 (Nat.lt_succ_self _) (eO_n v (fo G m (k + d)) o (k + d)).1 (by omega)).1
/-- how the counts stand to the measures -/
theorem cl_lv (gi : GI G) (r2 : ∀ i k : Nat, (i : Int) < G 14 1 → (k : Int) < G 18 i → rk (fo G i k) < rk i) : ∀ (n m : Nat), (m : Int) < G 14 1 → rk m < n → G 18 m ≠ 0 → lv G m = if (1000000 : Int) < cl G n m then 1000000 else (cl G n m : Int) := by
  intro n
  induction n with
  | zero => intro m _ h; omega
  | succ n ih =>
    intro m hm hr hz
    have ni := gi.ni hm
    have e : lv G m = lvF G (lv G) m := fxp_at gi lvF_lo hm
    have leaf : ∀ c : Nat, (c : Int) < G 14 1 → G 18 c = 0 → lv G c = 1 := fun c hc h0 => by
      have e : lv G c = lvF G (lv G) c := fxp_at gi lvF_lo hc
      rw [e]
      unfold lvF
      rw [h0]
      simp only [Int.toNat_zero, lsm, if_pos h0]
      rfl
    have key : ∀ k : Nat, (k : Int) ≤ G 18 m → (lsm G (lv G) m k ≤ clI G (cl G n) m k) ∧ (lsm G (lv G) m k < 1000000 → lsm G (lv G) m k = clI G (cl G n) m k) := by
      intro k
      induction k with
      | zero => intro _; simp only [lsm, clI, if_neg hz]; omega
      | succ k ihk =>
        intro hk9
        have a := ihk (by omega)
        have lf := (gi.fv hm (k := k) (by omega)).2
        have b0 := lv_b (G := G) 24 (fo G m k)
        have b : 0 ≤ lv G (fo G m k) := b0.1
        have lb := (lsm_b (G := G) (f := lv G) (x := m) (B := 1000000) (by decide) k (fun j _ => lv_b 24 _)).1
        simp only [lsm, clI]
        by_cases c : G 18 (fo G m k) = 0
        · rw [if_pos c, leaf _ lf c]
          omega
        · rw [if_neg c]
          have := ih (fo G m k) lf (by have := r2 m k hm (by omega); omega) c
          split at this <;> omega
    have kk := key (G 18 m).toNat (by omega)
    rw [e]
    unfold lvF
    show _ = if (1000000 : Int) < clI G (cl G n) m (G 18 m).toNat then _ else _
    have : (cl G (n + 1) m : Int) = clI G (cl G n) m (G 18 m).toNat := rfl
    rw [this]
    split <;> split <;> omega
theorem cn_nto (gi : GI G) (r2 : ∀ i k : Nat, (i : Int) < G 14 1 → (k : Int) < G 18 i → rk (fo G i k) < rk i) : ∀ (n m : Nat), (m : Int) < G 14 1 → rk m < n → 0 ≤ cn G n m ∧ nto G m = if 3001 < G 20 m + cn G n m then 3001 else G 20 m + cn G n m := by
  intro n
  induction n with
  | zero => intro m _ h; omega
  | succ n ih =>
    intro m hm hr
    have ni := gi.ni hm
    have nn := gi.nn hm
    have e : nto G m = ntF G (nto G) m := fxp_at gi ntF_lo hm
    have key : ∀ k : Nat, (k : Int) ≤ G 18 m → 0 ≤ cnI G (cn G n) m k ∧ (nsm G (nto G) m k ≤ G 20 m + cnI G (cn G n) m k) ∧ (nsm G (nto G) m k < 3001 → nsm G (nto G) m k = G 20 m + cnI G (cn G n) m k) := by
      intro k
      induction k with
      | zero => intro _; simp only [nsm, cnI]; omega
      | succ k ihk =>
        intro hk9
        have a := ihk (by omega)
        have lf := (gi.fv hm (k := k) (by omega)).2
        have b := nto_b gi lf
        have nf9 := gi.nn lf
        have nb := (nsm_b (G := G) (f := nto G) (x := m) (B := 3001) (by decide) nn k (fun j hj => nto_b gi (gi.fv hm (k := j) (by omega)).2)).1
        simp only [nsm, cnI]
        by_cases c : G 18 (fo G m k) = 0
        · rw [if_pos c, if_pos c]
          omega
        · rw [if_neg c, if_neg c]
          have := ih (fo G m k) lf (by have := r2 m k hm (by omega); omega)
          obtain ⟨i1, i2⟩ := this
          split at i2 <;> omega
    have kk := key (G 18 m).toNat (by omega)
    have : cn G (n + 1) m = cnI G (cn G n) m (G 18 m).toNat := rfl
    rw [this]
    refine ⟨kk.1, ?_⟩
    rw [e]
    unfold ntF
    split <;> split <;> omega
theorem w0_f {m : Nat} (hm : (m : Int) < G 14 1) (r1 : ∀ i : Nat, (i : Int) < G 14 1 → rk i ≤ 23) : WF G rk m (w0 m) := by
  refine ⟨⟨Nat.le_refl _, rfl, rfl⟩, fun o _ => ⟨hm, ?_⟩, fun o ho h1 => ?_, fun l hl9 => absurd hl9 (Nat.not_lt_zero _)⟩
  · show 0 + rk m ≤ 23
    have := r1 m hm
    omega
  · have : o < 1 := ho
    omega
end
