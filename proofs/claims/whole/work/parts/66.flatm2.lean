/-! the model's flat -/
section
variable {G : Nat → Nat → Int} {S : AS} {rk : Nat → Nat} {x : Nat} {w : WT}
/-- the module that a leaf is of -/
def lf9 (G : Nat → Nat → Int) (w : WT) (q : Nat) : Nat := fo G (wm w (wo w q)) (wj w q)
/-- what is written for one leaf -/
def Fq (G : Nat → Nat → Int) (w : WT) (l : Nat → Nat) (t q : Nat) (K : Nat → Nat → Int) : Prop := K 19 (64 * t + q) = (lf9 G w q : Int) ∧ K 23 (64 * t + q) = (wd w (wo w q) : Int) + 1 ∧ (∀ u, u ≤ wd w (wo w q) → K 24 (24 * (64 * t + q) + u) = (wyf w q u : Int)) ∧ ∀ p, p < 128 → K 22 (8320 * t + 128 * q + p) = if (p : Int) < pc G (lf9 G w q) then ren (nu l) (fst G w (wo w q)) (qn G (wm w (wo w q)) (wj w q + 1) p) else -1
theorem flat_361 (gi : GI G) (hw : WF G rk x w) {S0 T0 : AS} {N m t q : Nat} {l : Nat → Nat} (fr : FR G S0 w N l m t T0) (hq : q < wl w) (k292 : Option Nat → Int → Int → AS → Option RS) : ∀ (d p fu : Nat) (T : AS), (pc G (lf9 G w q)).toNat = p + d → d < fu → Ch (nt9 t) T0 T → ∃ T', f_X6_flat_361 fu k292 (some 14) t q (wm w (wo w q)) (lf9 G w q) p T = k292 (some 14) t ((q : Int) + 1) T' ∧ Ch (fun a j => a = 22 ∧ 8320 * t + 128 * q + p ≤ j ∧ j < 8320 * t + 128 * q + (pc G (lf9 G w q)).toNat) T T' ∧ ∀ u : Nat, p ≤ u → (u : Int) < pc G (lf9 G w q) → hI T' 22 (8320 * t + 128 * q + u) = ren (nu l) (fst G w (wo w q)) (qn G (wm w (wo w q)) (wj w q + 1) u) := by
  obtain ⟨f0, g0, lf, n34, ⟨et, hm, ht⟩, hw0, hn16, hl64, hN, hN3⟩ := fr
  have fr : FR G S0 w N l m t T0 := ⟨f0, g0, lf, n34, ⟨et, hm, ht⟩, hw0, hn16, hl64, hN, hN3⟩
  obtain ⟨oq, jq, -⟩ := hw.2.2.2 q hq
  have hmm := (hw.2.1 _ oq).1
  have lm := gi.lt hmm
  have ni := gi.ni hmm
  have hc : (lf9 G w q : Int) < G 14 1 := (gi.fv hmm jq).2
  have pb := pc_le (gi.pw hc)
  have hct : lf9 G w q < t := by omega
  have hmt : wm w (wo w q) < t := by omega
  intro d
  induction d with
  | zero =>
    intro p fu T hp hf ch
    obtain ⟨fu, rfl⟩ : ∃ z, fu = z + 1 := ⟨fu - 1, by omega⟩
    have fT := ch.fix f0
    refine ⟨T, ?_, Ch.rfl' _ _, fun u h1 h2 => by omega⟩
    unfold f_X6_flat_361
    rw [fk_14 fT, gd_1, fr.pins gi ch hct, cI_s, if_pos (by omega), chk_ok (by omega) (by omega), Option.bind_some]
  | succ d ih =>
    intro p fu T hp hf ch
    obtain ⟨fu, rfl⟩ : ∃ z, fu = z + 1 := ⟨fu - 1, by omega⟩
    have fT := ch.fix f0
    have q0 := qn_lt gi hmm (j := wj w q + 1) (p := p) (by omega) (by omega)
    obtain ⟨T1, hT1⟩ : ∃ T1, T1 = wI T 22 (8320 * t + 128 * q + p) (ren (nu l) (fst G w (wo w q)) (qn G (wm w (wo w q)) (wj w q + 1) p)) := ⟨_, rfl⟩
    have ch1 : Ch (nt9 t) T0 T1 := by rw [hT1]; exact ch.wr _ (by unfold nt9; omega)
    obtain ⟨T', e, c', v'⟩ := ih (p + 1) fu T1 (by omega) (by omega) ch1
    have a1 := at_eq (m := wm w (wo w q)) (j := wj w q + 1) (p := p) (by omega) (by omega) (by omega) T
    rw [show ((wj w q + 1 : Nat) : Int) - 1 = (wj w q : Int) by omega] at a1
    have a2 := at_eq (m := t) (j := q + 1) (p := p) (by omega) (by omega) (by omega) T
    rw [show ((q + 1 : Nat) : Int) - 1 = (q : Int) by omega, show jb (q + 1) = q by unfold jb; rw [if_neg (by omega)]; omega] at a2
    have c30 := (lf.1.2.2.2 q hq).2
    have c29 := (lf.1.2.2.2 q hq).1
    have c28 := lf.2.1 (wo w q) (by omega)
    rw [← ch.i (by unfold nt9; omega)] at c28 c29 c30
    have jj : jb (wj w q + 1) = wj w q := by unfold jb; rw [if_neg (by omega)]; omega
    have e22 : hI T 22 (8320 * wm w (wo w q) + 128 * jb (wj w q + 1) + p) = qn G (wm w (wo w q)) (wj w q + 1) p := by
      rw [qn_s, jj]
      have := fr.v22 ch (i := wm w (wo w q)) (q := 128 * wj w q + p) hmt (by omega)
      rw [← Nat.add_assoc] at this
      exact this
    have l22 : 8320 * wm w (wo w q) + 128 * jb (wj w q + 1) + p < 199680 := by rw [jj]; omega
    refine ⟨T', ?_, ?_, fun u h1 h2 => ?_⟩
    · refine Eq.trans ?_ e
      rw [hT1]
      conv => lhs; unfold f_X6_flat_361
      rw [fk_14 fT, gd_1, fr.pins gi ch hct, cI_s, if_neg (by omega), fr_14_10 fT, Option.bind_some, fr_14_20 fT, Option.bind_some, fa_30 fT (by omega) (by omega), Option.bind_some, tn, c30, a1, cI_s, fa_22 fT (by omega) (by omega), Option.bind_some, tn, e22, fr_14_10 fT, Option.bind_some, a2, cI_s]
      unfold ren
      by_cases c : qn G (wm w (wo w q)) (wj w q + 1) p = -1
      · rw [if_pos c, if_pos c, fs_22 fT _ (by omega) (by omega), Option.bind_some, tn, chk_ok (by omega) (by omega), Option.bind_some]
        rfl
      · have f1 := fst_in gi hw (o := wo w q) oq (v := qn G (wm w (wo w q)) (wj w q + 1) p) (by omega) (by omega)
        have i34 := fr.v34 ch (y := (fst G w (wo w q) + qn G (wm w (wo w q)) (wj w q + 1) p).toNat) (by omega)
        rw [if_neg c, if_neg c, fr_14_24 fT, Option.bind_some, fr_14_17 fT, Option.bind_some, fr_14_19 fT, Option.bind_some, fa_29 fT (by omega) (by omega), Option.bind_some, tn, c29, fa_28 fT (by omega) (by omega), Option.bind_some, tn, c28, chk_ok (by omega) (by omega), Option.bind_some, fa_34 fT (by omega) (by omega), Option.bind_some, i34, fs_22 fT _ (by omega) (by omega), Option.bind_some, tn, chk_ok (by omega) (by omega), Option.bind_some]
        rfl
    · have c1 : Ch (fun a j => a = 22 ∧ 8320 * t + 128 * q + p ≤ j ∧ j < 8320 * t + 128 * q + (pc G (lf9 G w q)).toNat) T T1 := by
        rw [hT1]
        exact (Ch.rfl' _ _).wr _ ⟨rfl, by omega, by omega⟩
      exact c1.tr (c'.sub (fun a j z => ⟨z.1, by omega, z.2.2⟩))
    · by_cases cu : u = p
      · subst cu
        rw [c'.i (by omega), hT1, hI_w0]
      · exact v' u (by omega) h2
/-- the cells of the leaves from q on -/
def lc9 (t q a j : Nat) : Prop := ((a = 19 ∨ a = 23) ∧ 64 * t + q ≤ j ∧ j < 64 * t + 64) ∨ (a = 24 ∧ 24 * (64 * t + q) ≤ j ∧ j < 1536 * t + 1536) ∨ (a = 22 ∧ 8320 * t + 128 * q ≤ j ∧ j < 8320 * t + 8192)
theorem Fq.ch {S T : AS} {l : Nat → Nat} {t q u : Nat} (h : Fq G w l t q (hI S)) (hw : WF G rk x w) (hq : q < wl w) (c : Ch (lc9 t u) S T) (hu9 : q < u) : Fq G w l t q (hI T) := by
  obtain ⟨h1, h2, h3, h4⟩ := h
  obtain ⟨oq, -, -⟩ := hw.2.2.2 q hq
  have d23 := (hw.2.1 _ oq).2
  exact ⟨by rw [c.i (by unfold lc9; omega)]; exact h1, by rw [c.i (by unfold lc9; omega)]; exact h2, fun v hv => by rw [c.i (by unfold lc9; omega)]; exact h3 v hv, fun p hp => by rw [c.i (by unfold lc9; omega)]; exact h4 p hp⟩
set_option maxHeartbeats 4000000 in
theorem flat_292 (gi : GI G) (hw : WF G rk x w) {S0 T0 : AS} {N m t : Nat} {l : Nat → Nat} (fr : FR G S0 w N l m t T0) : ∀ (d q fu : Nat) (T : AS), wl w = q + d → d < fu → Ch (nt9 t) T0 T → (∀ v p, q ≤ v → v < 64 → p < 128 → hI T 22 (8320 * t + 128 * v + p) = -1) → ∃ T', f_X6_flat_292 fu (some 14) t q T = some ((0, (t : Int), none), T') ∧ Ch (lc9 t q) T T' ∧ (∀ v, q ≤ v → v < wl w → Fq G w l t v (hI T')) ∧ ∀ v p, wl w ≤ v → v < 64 → p < 128 → hI T' 22 (8320 * t + 128 * v + p) = -1 := by
  obtain ⟨f0, g0, lf, n34, ⟨et, hm, ht⟩, hw0, hn16, hl64, hN, hN3⟩ := fr
  have fr : FR G S0 w N l m t T0 := ⟨f0, g0, lf, n34, ⟨et, hm, ht⟩, hw0, hn16, hl64, hN, hN3⟩
  intro d
  induction d with
  | zero =>
    intro q fu T hq hf ch h22
    obtain ⟨fu, rfl⟩ : ∃ z, fu = z + 1 := ⟨fu - 1, by omega⟩
    have fT := ch.fix f0
    have c18 := lf.1.2.1.2
    rw [← ch.i (by unfold nt9; omega)] at c18
    refine ⟨T, ?_, Ch.rfl' _ _, fun v h1 h2 => by omega, fun v p h1 h2 h3 => h22 v p (by omega) h2 h3⟩
    unfold f_X6_flat_292
    rw [fg_14 fT, Option.bind_some, c18, if_pos (by omega), rI_s]
  | succ d ih =>
    intro q fu T hq hf ch h22
    obtain ⟨fu, rfl⟩ : ∃ z, fu = z + 1 := ⟨fu - 1, by omega⟩
    have fT := ch.fix f0
    have hql : q < wl w := by omega
    obtain ⟨oq, jq, -⟩ := hw.2.2.2 q hql
    have hmm := (hw.2.1 _ oq).1
    have d23 := (hw.2.1 _ oq).2
    have lm := gi.lt hmm
    have ni := gi.ni hmm
    have fv := gi.fv hmm jq
    have hc : (lf9 G w q : Int) < G 14 1 := fv.2
    have pb := pc_le (gi.pw hc)
    have c18 := lf.1.2.1.2
    have c30 := (lf.1.2.2.2 q hql).2
    have c29 := (lf.1.2.2.2 q hql).1
    have c25 := (lf.1.2.2.1 _ oq).1
    rw [← ch.i (by unfold nt9; omega)] at c18 c29 c30 c25
    have c19 : hI T 19 (64 * wm w (wo w q) + wj w q) = (lf9 G w q : Int) := by
      rw [ch.i (by unfold nt9; omega), g0 19 _ (Or.inl (by omega))]
      exact fv.1
    obtain ⟨T1, hT1⟩ : ∃ T1, T1 = wI T 19 (64 * t + q) (lf9 G w q) := ⟨_, rfl⟩
    have ch1 : Ch (nt9 t) T0 T1 := by rw [hT1]; exact ch.wr _ (by unfold nt9; omega)
    obtain ⟨T2, e2, c2, v23, v24⟩ := setWay_eq hw fr hql ch1
    have ch2 : Ch (nt9 t) T0 T2 := ch1.tr (c2.sub (fun a j z => by unfold nt9; omega))
    obtain ⟨T3, e3, c3, v22⟩ := flat_361 gi hw fr hql (f_X6_flat_292 fu) (pc G (lf9 G w q)).toNat 0 FU T2 (by omega) (FU_gt (by omega)) ch2
    have ch3 : Ch (nt9 t) T0 T3 := ch2.tr (c3.sub (fun a j z => by unfold nt9; omega))
    have l13 : Ch (lc9 t q) T T3 := by
      refine (Ch.tr (T := T1) ?_ (c2.sub (fun a j z => by unfold lc9; omega))).tr (c3.sub (fun a j z => by unfold lc9; omega))
      rw [hT1]
      exact (Ch.rfl' _ _).wr _ (by unfold lc9; omega)
    have t22 : ∀ v p, q ≤ v → v < 64 → p < 128 → hI T2 22 (8320 * t + 128 * v + p) = -1 := fun v p h1 h2 h3 => by
      rw [c2.i (by omega), hT1, hI_wn (by omega)]
      exact h22 v p h1 h2 h3
    have fq : Fq G w l t q (hI T3) := by
      refine ⟨?_, ?_, fun u hu9 => ?_, fun p hp => ?_⟩
      · rw [c3.i (by omega), c2.i (by omega), hT1, hI_w0]
      · rw [c3.i (by omega)]; exact v23
      · rw [c3.i (by omega)]; exact v24 u hu9
      · by_cases c : (p : Int) < pc G (lf9 G w q)
        · rw [if_pos c]
          exact v22 p (Nat.zero_le _) c
        · rw [if_neg c, c3.i (by omega)]
          exact t22 q p (Nat.le_refl _) (by omega) hp
    obtain ⟨T', e4, c4, v4, w4⟩ := ih (q + 1) fu T3 (by omega) (by omega) ch3 (fun v p h1 h2 h3 => by
      rw [c3.i (by omega)]
      exact t22 v p (by omega) h2 h3)
    refine ⟨T', ?_, l13.tr (c4.sub (fun a j z => by unfold lc9 at z ⊢; omega)), fun v h1 h2 => ?_, w4⟩
    · refine Eq.trans ?_ e4
      rw [show ((q + 1 : Nat) : Int) = (q : Int) + 1 by omega, ← e3]
      conv => lhs; unfold f_X6_flat_292
      rw [fg_14 fT, Option.bind_some, c18, if_neg (by omega), fr_14_14 fT, Option.bind_some, fr_14_19 fT, Option.bind_some, fa_29 fT (by omega) (by omega), Option.bind_some, tn, c29, fa_25 fT (by omega) (by omega), Option.bind_some, tn, c25, fr_14_6 fT, Option.bind_some, chk_ok (by omega) (by omega), Option.bind_some, fr_14_20 fT, Option.bind_some, fa_30 fT (by omega) (by omega), Option.bind_some, tn, c30, chk_ok (by omega) (by omega), Option.bind_some, fa_19 fT (by omega) (by omega), Option.bind_some, show (64 * (wm w (wo w q) : Int) + (wj w q : Int)).toNat = 64 * wm w (wo w q) + wj w q by omega, c19, Option.bind_some, chk_ok (by omega) (by omega), Option.bind_some, chk_ok (by omega) (by omega), Option.bind_some, fs_19 fT _ (by omega) (by omega), Option.bind_some, show (64 * (t : Int) + (q : Int)).toNat = 64 * t + q by omega, ← hT1, fk_14 (ch1.fix f0), gd_1, e2, cV_s]
      rfl
    · by_cases c : v = q
      · subst c
        exact fq.ch hw hql c4 (by omega)
      · exact v4 v (by omega) h2
/-- G' has the flat module t -/
def Fs (G G' : Nat → Nat → Int) (m t : Nat) (w : WT) (l : Nat → Nat) (c : Nat) : Prop :=
  (G 14 1 = t ∧ G' 14 1 = (t : Int) + 1) ∧ P2 G G' m t ∧ (G' 18 t = wl w ∧ G' 20 t = c ∧ G' 21 t = G 14 9 + 1 ∧ G' 14 9 = G 14 9 + 1) ∧ (∀ j, G' 17 j = 0 ∨ G' 17 j = 1) ∧ (∀ a j, kor a j → ¬ nt9 t a j → G' a j = G a j) ∧ (∀ q, q < 128 → G' 22 (8320 * t + 8192 + q) = ren (nu l) 0 (qn G m 0 q)) ∧ (∀ q, q < wl w → Fq G w l t q G') ∧ ∀ v p, wl w ≤ v → v < 64 → p < 128 → G' 22 (8320 * t + 128 * v + p) = -1
set_option maxHeartbeats 4000000 in
theorem m_flat (h : Fix S) (g : Ag G S) (gi : GI G) (r1 : ∀ i : Nat, (i : Int) < G 14 1 → rk i ≤ 23) (r2 : ∀ i k : Nat, (i : Int) < G 14 1 → (k : Int) < G 18 i → rk (fo G i k) < rk i) (x : Int) : (¬ (0 ≤ x ∧ x < G 14 1) → MO S (f_X6_flat (some 14) x S) 1 0 G) ∧ ((0 ≤ x ∧ x < G 14 1) → G 14 1 = 24 → MO S (f_X6_flat (some 14) x S) 2 0 G) ∧ ∀ m t : Nat, x = m → m < t → G 14 1 = t → t ≠ 24 → (64 < wl (wk G 24 0 m (w0 m)) → MO S (f_X6_flat (some 14) x S) 3 0 G) ∧ (wl (wk G 24 0 m (w0 m)) ≤ 64 → (3000 < fst G (wk G 24 0 m (w0 m)) (wn (wk G 24 0 m (w0 m))) → MO S (f_X6_flat (some 14) x S) 3 0 G) ∧ (fst G (wk G 24 0 m (w0 m)) (wn (wk G 24 0 m (w0 m))) ≤ 3000 → ∃ l, Lb (EE G (wk G 24 0 m (w0 m))) (fst G (wk G 24 0 m (w0 m)) (wn (wk G 24 0 m (w0 m)))).toNat l ∧ (128 < cnt (fun i => decide (l i = i)) (fst G (wk G 24 0 m (w0 m)) (wn (wk G 24 0 m (w0 m)))).toNat → MO S (f_X6_flat (some 14) x S) 3 0 G) ∧ (cnt (fun i => decide (l i = i)) (fst G (wk G 24 0 m (w0 m)) (wn (wk G 24 0 m (w0 m)))).toNat ≤ 128 → ∃ G', MO S (f_X6_flat (some 14) x S) 0 t G' ∧ Fs G G' m t (wk G 24 0 m (w0 m)) l (cnt (fun i => decide (l i = i)) (fst G (wk G 24 0 m (w0 m)) (wn (wk G 24 0 m (w0 m)))).toNat)))) := by
  have h1 := gi.1
  refine ⟨fun hx => ?_, fun hx h24 => ?_, fun m t hxm hmt et ht => ?_⟩
  · have z : ∀ s : Int, f_X6_flat_33 (some 14) x s 1 (some 14) S = some ((0, 0, none), wI S 14 0 1) := fun s => by
      unfold f_X6_flat_33
      rw [fk_14 h, gd_1, refused_i h, cI_s, if_neg (by decide), rI_s]
    refine MO.th g ?_
    unfold f_X6_flat f_X6_flat_19
    rw [mg_1 h g, Option.bind_some, isIn_f hx, cI_s, if_pos rfl, mg_1 h g, Option.bind_some, z 1, z 0]
    split <;> rfl
  · refine MO.th g ?_
    unfold f_X6_flat f_X6_flat_19
    rw [mg_1 h g, Option.bind_some, isIn_t hx, cI_s, if_neg (by decide), mg_1 h g, Option.bind_some, if_pos h24]
    unfold f_X6_flat_33
    rw [fk_14 h, gd_1, refused_s h, cI_s, if_neg (by decide), rI_s]
  · have hm : (m : Int) < G 14 1 := by omega
    obtain ⟨w, hw0⟩ : ∃ w, w = wk G 24 0 m (w0 m) := ⟨_, rfl⟩
    have wok := wk_ok gi r2 24 0 m (w0 m) (w0_f hm r1) (Nat.lt_succ_self _) rfl (by have := r1 m hm; omega)
    rw [← hw0] at wok ⊢
    obtain ⟨px, hw, -, -⟩ := wok
    have hs1 := h.wI 14 0 0
    have gs1 : Ag G (wI S 14 0 0) := g.w1 kor_0
    have mf1 := MF.w1 S (a := 14) 0 0 (by decide) (by decide)
    have e1 : f_X6_flat (some 14) x S = cI (f_X6_walk (some 14) m (wI S 14 0 0)) fun v5 S4 => if v5 = 0 then f_X6_flat_62 (some 14) m 0 S4 else gd (isK S4 (some 14) 7) <| cI (f_X6_unite (some 14) S4) fun v8 S7 => if v8 = 0 then f_X6_flat_62 (some 14) m 0 S7 else f_X6_flat_63 (some 14) m 0 1 S7 := by
      rw [hxm]
      unfold f_X6_flat f_X6_flat_19
      rw [mg_1 h g, Option.bind_some, isIn_t ⟨by omega, hm⟩, cI_s, if_neg (by decide), mg_1 h g, Option.bind_some, if_neg (by omega)]
      conv => lhs; unfold f_X6_flat_33
      rw [fk_14 h, gd_1, refused_n h, cI_s, if_pos rfl, fk_14 hs1, gd_1]
    have fail : ∀ (T : AS) (c : Int), Fix T → Ag G T → MF (wI S 14 0 0) T → MO S (f_X6_flat_92 (some 14) m c (some 14) T) 3 0 G := fun T c fT gT mT => by
      refine ⟨wI T 14 0 3, ?_, (mf1.tr mT).tr (MF.w1 _ 0 3 (by decide) (by decide)), hI_w0 _ _ _ _, gT.w1 kor_0⟩
      unfold f_X6_flat_92 f_X6_flat_93
      rw [fp_14 fT, Option.bind_some, fg_14 (fT.wI 14 0 3), Option.bind_some, hI_w0, if_neg (by decide), rI_s]
    have f62 : ∀ T, f_X6_flat_62 (some 14) m 0 T = f_X6_flat_92 (some 14) m 0 (some 14) T := fun T => by
      unfold f_X6_flat_62 f_X6_flat_63 f_X6_flat_75
      rw [if_pos rfl, if_pos rfl]
    obtain ⟨T1, hT1⟩ := walk_eq hs1 gs1 gi r1 r2 hm
    rw [← hw0] at hT1
    refine ⟨fun h64 => ?_, fun h64 => ?_⟩
    · rcases hT1 with ⟨a1, -⟩ | ⟨a1, a2, a3⟩
      · omega
      · obtain ⟨fT, gT, mT, -⟩ := a3.ok hs1 gs1
        rw [e1, a2, cI_s, if_pos rfl, f62]
        exact fail T1 0 fT gT mT
    · rcases hT1 with ⟨a1, a2, a3, a4⟩ | ⟨a1, -⟩
      · obtain ⟨fT1, gT1, mT1, -⟩ := a3.1.ok hs1 gs1
        obtain ⟨T2, hT2⟩ := unite_eq hs1 gs1 gi hw a4 a3
        have p0 := (fst_up gi hw 0 (wn w) (Nat.le_refl _)).1
        refine ⟨fun h3 => ?_, fun h3 => ?_⟩
        · rcases hT2 with ⟨b1, -⟩ | ⟨b1, b2, b3⟩
          · omega
          · obtain ⟨fT, gT, mT, -⟩ := b3.ok hs1 gs1
            rw [e1, a2, cI_s, if_neg (by decide), fk_14 fT1, gd_1, b2, cI_s, if_pos rfl, f62]
            exact fail T2 0 fT gT mT
        · rcases hT2 with ⟨b1, l, b2, b3⟩ | ⟨b1, -⟩
          · obtain ⟨N, hN⟩ : ∃ N, (fst G w (wn w)).toNat = N := ⟨_, rfl⟩
            rw [hN] at b3 ⊢
            have hN' : fst G w (wn w) = (N : Int) := by omega
            obtain ⟨T3, e3, lf3, n3⟩ := number_eq hs1 gs1 gi hN' (by omega) a4 b3
            obtain ⟨fT2, gT2, mT2, -⟩ := b3.1.1.ok hs1 gs1
            obtain ⟨fT3, gT3, mT3, -⟩ := lf3.1.1.ok hs1 gs1
            have e4 : f_X6_flat (some 14) x S = f_X6_flat_75 (some 14) m (cnt (fun i => decide (l i = i)) N : Int) 1 T3 := by
              rw [e1, a2, cI_s, if_neg (by decide), fk_14 fT1, gd_1, b2, cI_s, if_neg (by decide)]
              unfold f_X6_flat_63
              rw [if_neg (by decide), fk_14 fT2, gd_1, e3, cI_s]
            refine ⟨l, b3.2.2.1, fun hc => ?_, fun hc => ?_⟩
            · rw [e4]
              unfold f_X6_flat_75
              rw [if_neg (by decide), if_pos (by omega)]
              exact fail T3 _ fT3 gT3 mT3
            · have wm0 : wm w 0 = m := hw.1.2.1
              have fr : FR G (wI S 14 0 0) w N l m t T3 := ⟨fT3, gT3, lf3, n3, ⟨et, hmt, by omega⟩, wm0, a4, h64, hN', by omega⟩
              obtain ⟨T4, e5, c4, f4⟩ := flat_93 gi fr (cnt (fun i => decide (l i = i)) N : Int)
              obtain ⟨p1, p2, p3, p4, p5⟩ := f4
              have pw := gi.pw hm
              have pb := pc_le pw
              obtain ⟨T5, e6, c5, v5⟩ := flat_228 gi hw fr (pc G m).toNat 0 FU T4 (by omega) (FU_gt (by omega)) c4 (fr.p2 gi p1.1 p3) (fun q hq => absurd hq (Nat.not_lt_zero _))
              have k5 : Ch (nt9 t) T3 T5 := c4.tr (c5.sub (fun a j z => by unfold nt9; omega))
              obtain ⟨T6, e7, c6, v6, w6⟩ := flat_292 gi hw fr (wl w) 0 FU T5 (by omega) (FU_gt (by omega)) k5 (fun v p h1 h2 h3 => by
                rw [c5.i (by omega), show 8320 * t + 128 * v + p = 8320 * t + (128 * v + p) by omega]
                exact p4 _ (by omega))
              have k6 : Ch (nt9 t) T3 T6 := k5.tr (c6.sub (fun a j z => by unfold lc9 at z; unfold nt9; omega))
              have o6 : ∀ a j, a ≠ 22 → a ≠ 19 → a ≠ 23 → a ≠ 24 → hI T6 a j = hI T4 a j := fun a j z1 z2 z3 z4 => by
                rw [c6.i (by unfold lc9; omega), c5.i (by omega)]
              refine ⟨hI T6, ⟨T6, ?_, (mf1.tr mT3).tr ?_, ?_, Ag.self T6⟩, ?_⟩
              · rw [e4]
                unfold f_X6_flat_75
                rw [if_neg (by decide), if_neg (by omega), e5]
                exact e6.trans e7
              · obtain ⟨J, hJ, hK⟩ := k6
                exact ⟨J, hJ, fun a j ha => hK a j (by unfold nt9; omega)⟩
              · rw [o6 14 0 (by omega) (by omega) (by omega) (by omega)]; exact p2.2.2
              · refine ⟨⟨et, by rw [o6 14 1 (by omega) (by omega) (by omega) (by omega)]; exact p2.2.1⟩, fr.p2 gi (by rw [o6 15 _ (by omega) (by omega) (by omega) (by omega)]; exact p1.1) (fun k hk9 => by rw [o6 16 _ (by omega) (by omega) (by omega) (by omega), o6 17 _ (by omega) (by omega) (by omega) (by omega)]; exact p3 k hk9), ⟨by rw [o6 18 _ (by omega) (by omega) (by omega) (by omega)]; exact p1.2.1, by rw [o6 20 _ (by omega) (by omega) (by omega) (by omega)]; exact p1.2.2.1, by rw [o6 21 _ (by omega) (by omega) (by omega) (by omega)]; exact p1.2.2.2, by rw [o6 14 _ (by omega) (by omega) (by omega) (by omega)]; exact p2.1⟩, fun j => ?_, fun a j hk9 hx => ?_, fun q hq => ?_, fun q hq => v6 q (Nat.zero_le _) hq, w6⟩
                · by_cases c : 16 * t ≤ j ∧ j < 16 * t + 16
                  · have := (p3 (j - 16 * t) (by omega)).2
                    rw [show 16 * t + (j - 16 * t) = j by omega] at this
                    rw [o6 17 _ (by omega) (by omega) (by omega) (by omega), this]
                    exact gi.2.2.2.2 _
                  · rw [k6.i (by unfold nt9; omega), gT3 17 j (Or.inl (by omega))]
                    exact gi.2.2.2.2 _
                · rw [k6.i hx]
                  exact gT3 a j hk9
                · rw [c6.i (by unfold lc9; omega)]
                  by_cases c : (q : Int) < pc G m
                  · exact v5 q c
                  · have := qn_own gi hm (p := q) (by omega) hq
                    rw [c5.i (by omega), this, show 8320 * t + 8192 + q = 8320 * t + (8192 + q) by omega, p4 _ (by omega)]
                    rfl
          · omega
      · omega
end
