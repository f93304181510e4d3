/-! the class lays out: the way down -/
variable {sh ins : Nat → Nat} {pl nt wy : Nat → Nat → Nat} {tg : Nat → Nat × Nat}
section
variable {G : Nat → Nat → Int} {S : AS} {rk : Nat → Nat} {x : Nat} {w : WT}
/-- a layer down: its nets, united over the pins -/
theorem down_eq (C : Cls sh ins pl nt wy tg G S) (hs : Stt S) (gi : GI G) (r2 : ∀ i k : Nat, (i : Int) < G 14 1 → (k : Int) < G 18 i → rk (fo G i k) < rk i) {v : WT} (hv : WF G rk x v) {o k m c : Nat} {l : Nat → Nat} {T : AS} (cw : CW G ins pl S T v l) (ho : o < wn v) (mo : wm v o = m) (hk9 : (k : Int) < G 18 m) (hc : c = fo G m k) (hz : G 18 c ≠ 0) (h3 : fst G v (wn v) + G 20 c ≤ 3000) : ∃ T1 T2 l', f_X1_addNets (some 5) (G 20 c) T = some ((0, fst G v (wn v), none), T1) ∧ (Fix T1 ∧ Kp S T1) ∧ f_X1_uniteOver (some 5) (some (pl (ins m) k)) (fst G v o) (fst G v (wn v)) T1 = some ((0, 0, none), T2) ∧ CW G ins pl S T2 (eO v c o k) l' ∧ ∀ u, hI T2 7 u = hI T 7 u := by
  obtain ⟨⟨kp, fr⟩, ⟨hn9, hu9⟩, ⟨i5, i6⟩, lq, uf, lb⟩ := cw
  have fT := fr.2
  have hm : (m : Int) < G 14 1 := by rw [← mo]; exact (hv.2.1 o ho).1
  have fc := (gi.fv hm hk9).2
  rw [← hc] at fc
  have nn := gi.nn fc
  have h39 := hs.2.1
  have p0 := (fst_up gi hv 0 (wn v) (Nat.le_refl _)).1
  have px := Px.eO v c o k
  have hw1 : WF G rk x (eO v c o k) := by
    have := hv.o gi r2 (o := o) (k := k) ho (by rw [mo]; exact hk9) (by rw [mo, ← hc]; exact hz)
    rw [mo, ← hc] at this
    exact this
  obtain ⟨q1, q2, q3, q4, q5⟩ := eO_n v c o k
  have nO : wn (eO v c o k) = wn v + 1 := rfl
  obtain ⟨N, hN⟩ : ∃ N : Nat, fst G v (wn v) = (N : Int) := ⟨(fst G v (wn v)).toNat, by omega⟩
  obtain ⟨M, hM⟩ : ∃ M : Nat, G 20 c = (M : Int) := ⟨(G 20 c).toNat, by omega⟩
  have e2 : fst G (eO v c o k) (wn v) = fst G v (wn v) := fst_px px _ (Nat.le_refl _)
  have eN : fst G (eO v c o k) (wn (eO v c o k)) = ((N + M : Nat) : Int) := by
    have : fst G (eO v c o k) (wn (eO v c o k)) = fst G (eO v c o k) (wn v) + G 20 (wm (eO v c o k) (wn v)) := rfl
    rw [this, e2, q1, hN, hM]
    omega
  rw [hN, tn] at uf lb
  obtain ⟨T1, e1, c1, v5, v6⟩ := addNets_eq (N := N) (more := M) (by omega) fT (by rw [i5, hN])
  have sc1 : Sc T T1 := c1.sc (fun a j q => by omega)
  have f1 := sc1.fix fT
  have lt9 : ∀ a b, EE G v a b → a < N ∧ b < N := fun a b ⟨i, q, g1, g2, _, g4⟩ => by
    have := E1.lt gi hv g1 g2 g4
    rw [hN] at this
    omega
  have eq0 : ∀ a b, Ed G (eO v c o k) (wn v) 0 a b ↔ EE G v a b := fun a b => by
    constructor
    · rintro ⟨i, q, g1, g2, g3, g4⟩
      exact ⟨i, q, g1, by omega, Or.inl (by omega), (E1.px hv px g1 (by omega)).mp g4⟩
    · rintro ⟨i, q, g1, g2, g3, g4⟩
      exact ⟨i, q, g1, by omega, Or.inl g2, (E1.px hv px g1 g2).mpr g4⟩
  have lb1 := lb.ext (M := N + M) eq0 lt9
  have uf1 := uf.ext (M := N + M) (g := hI T1 6) (fun y hy => c1.i (by omega)) v6
  have CT := C.kp (kp.tr sc1.kp)
  have n1 := (np_le gi (j := 0) fc (by have := gi.ni fc; omega)).1
  obtain ⟨T2, l', e3, c2, uf2, lb2⟩ := uniteOver_15 (S := T1) CT gi hm hk9 hc hw1 mo ho hv.1.1 eN (by omega) (np G c 0) 0 FU T1 _ (by omega) (FU_gt (by omega)) (Sc.rfl' T1) f1 uf1 lb1
  have sc2 : Sc T1 T2 := c2.sc (fun a j q => by unfold c6 at q; omega)
  have sc12 := sc1.tr sc2
  refine ⟨T1, T2, l', by rw [hM, hN]; exact e1, ⟨f1, kp.tr sc1.kp⟩, ?_, ⟨⟨kp.tr sc12.kp, fr.tr (sc12.fr fT)⟩, ⟨?_, ?_⟩, ⟨?_, ?_⟩, fun q hq => ?_, ?_, ?_⟩, fun u => ?_⟩
  · unfold f_X1_uniteOver
    rw [c_p0 CT hm hk9, Option.bind_some, ← hc, c_in CT fc, Option.bind_some, c_a0 CT fc, Option.bind_some]
    exact e3
  · rw [sc12.1.1]; exact hn9
  · rw [sc12.1.2]; exact hu9
  · rw [eN, c2.i (by unfold c6; omega)]; exact v5
  · rw [c2.i (by unfold c6; omega), c1.i (by omega)]; exact i6
  · exact (((lq q hq).px hv px hq).ch c1 (fun a j z => by omega) h39).ch c2 (fun a j z => by unfold c6 at z; omega) h39
  · rw [eN, tn]; exact uf2
  · rw [eN, tn]
    have eq : ∀ a b, EE G (eO v c o k) a b ↔ Ed G (eO v c o k) (wn v) (np G c 0) a b := fun a b => by
      constructor
      · rintro ⟨i, q, g1, g2, g3, g4⟩
        refine ⟨i, q, g1, g2, ?_, g4⟩
        by_cases ci : i = wn v
        · have := g4.1
          rw [ci, q1] at this
          exact Or.inr ⟨ci, this⟩
        · exact Or.inl (by omega)
      · rintro ⟨i, q, g1, g2, g3, g4⟩
        exact ⟨i, q, g1, g2, Or.inl g2, g4⟩
    exact ⟨fun y hy => ⟨(lb2.1 y hy).1, fun f hf => (lb2.1 y hy).2 f (fun a b e => hf a b ((eq a b).mpr e))⟩, fun a b e => lb2.2 a b ((eq a b).mp e)⟩
  · rw [c2.i (by unfold c6; omega), c1.i (by omega)]
theorem layOut_eq (C : Cls sh ins pl nt wy tg G S) (hs : Stt S) (gi : GI G) (r2 : ∀ i k : Nat, (i : Int) < G 14 1 → (k : Int) < G 18 i → rk (fo G i k) < rk i) : ∀ (n o m : Nat) (w : WT) (T : AS) (l : Nat → Nat), WF G rk x w → o < wn w → wm w o = m → rk m < n → CW G ins pl S T w l → (∀ u, u < wd w o → hI T 7 u = (ww w o u : Int)) → wl (wk G n o m w) ≤ 64 → fst G (wk G n o m w) (wn (wk G n o m w)) ≤ 3000 → ∃ T' l', f_X5_layOut (n + 6) (some (sh m)) (fst G w o) (some 5) (wd w o) T = some ((0, 0, none), T') ∧ CW G ins pl S T' (wk G n o m w) l' ∧ ∀ u, u < wd w o → hI T' 7 u = hI T 7 u := by
  intro n
  induction n with
  | zero => intro o m w T l _ _ _ hr; omega
  | succ n ih =>
    intro o m w T l hw ho hm hr cw h7 h64 h3
    have hmm : (m : Int) < G 14 1 := by rw [← hm]; exact (hw.2.1 o ho).1
    have lm := gi.lt hmm
    have ni := gi.ni hmm
    obtain ⟨D, hD⟩ : ∃ D, D = wd w o := ⟨_, rfl⟩
    have D23 : D ≤ 23 := by rw [hD]; have := (hw.2.1 o ho).2; omega
    rw [← hD] at h7 ⊢
    have loop : ∀ (d k fu : Nat) (T : AS) (l : Nat → Nat), (G 18 m).toNat = k + d → d < fu → CW G ins pl S T (wkI G (wk G n) o m k w) l → (∀ u, u < D → hI T 7 u = (ww w o u : Int)) → ∃ T' l', f_X5_layOut_10 fu (f_X5_layOut (n + 6)) (some (sh m)) (fst G w o) (some 5) D k T = some ((0, 0, none), T') ∧ CW G ins pl S T' (wk G (n + 1) o m w) l' ∧ ∀ u, u < D → hI T' 7 u = hI T 7 u := by
      intro d
      induction d with
      | zero =>
        intro k fu T l hk9 hf cwT t7
        obtain ⟨fu, rfl⟩ : ∃ z, fu = z + 1 := ⟨fu - 1, by omega⟩
        have e : wkI G (wk G n) o m k w = wk G (n + 1) o m w := by
          show _ = wkI G (wk G n) o m (G 18 m).toNat w
          rw [hk9]
          rfl
        rw [e] at cwT
        have CT := C.kp cwT.1.1
        refine ⟨T, l, ?_, cwT, fun _ _ => rfl⟩
        unfold f_X5_layOut_10
        rw [c_in CT hmm, Option.bind_some, c_a2 CT hmm, Option.bind_some, if_pos (by omega), rV_s]
      | succ d ihd =>
        intro k fu T l hk9 hf cwT t7
        obtain ⟨fu, rfl⟩ : ∃ z, fu = z + 1 := ⟨fu - 1, by omega⟩
        have hkm : (k : Int) < G 18 m := by omega
        obtain ⟨p, f, -, -⟩ := wkI_ok gi r2 (fun o m w a b c d => wk_ok gi r2 n o m w a b c d) hw ho hm hr k (by omega)
        obtain ⟨p', f', -, -⟩ := wkI_ok gi r2 (fun o m w a b c d => wk_ok gi r2 n o m w a b c d) hw ho hm hr (k + 1) (by omega)
        have up := wkI_up gi r2 (n := n) hw ho hm hr d (k + 1) (by omega)
        have e : wkI G (wk G n) o m (k + 1 + d) w = wk G (n + 1) o m w := by
          show _ = wkI G (wk G n) o m (G 18 m).toNat w
          rw [hk9, show k + (d + 1) = k + 1 + d by omega]
        rw [e] at up
        have ff := wk_ok gi r2 (n + 1) o m w hw ho hm hr
        have fup := fst_up gi ff.2.1 (wn (wk G (n + 1) o m w) - wn (wkI G (wk G n) o m (k + 1) w)) (wn (wkI G (wk G n) o m (k + 1) w)) (by have := up.1; omega)
        rw [show wn (wkI G (wk G n) o m (k + 1) w) + (wn (wk G (n + 1) o m w) - wn (wkI G (wk G n) o m (k + 1) w)) = wn (wk G (n + 1) o m w) by have := up.1; omega, fst_px up _ (Nat.le_refl _)] at fup
        obtain ⟨v, hv⟩ : ∃ v, v = wkI G (wk G n) o m k w := ⟨_, rfl⟩
        have es : wkI G (wk G n) o m (k + 1) w = if G 18 (fo G m k) = 0 then eL v o k else wk G n (wn v) (fo G m k) (eO v (fo G m k) o k) := by rw [hv]; rfl
        rw [← hv] at p f cwT
        have ov : o < wn v := Nat.lt_of_lt_of_le ho p.1
        have mv : wm v o = m := (p.m ho).1.trans hm
        have dv : wd v o = D := by rw [(p.m ho).2.2.2.1, hD]
        have wv : ww v o = ww w o := (p.m ho).2.2.2.2
        have fv := (gi.fv hmm hkm).2
        have lf := gi.lt fv
        have fsv : fst G v o = fst G w o := fst_px p _ (by omega)
        have fT := cwT.1.2.2
        obtain ⟨T1, hT1⟩ : ∃ T1, T1 = wI T 7 D k := ⟨_, rfl⟩
        have c1 : Ch (fun a j => a = 7 ∧ j = D) T T1 := by rw [hT1]; exact (Ch.rfl' _ _).wr _ ⟨rfl, rfl⟩
        have sc1 : Sc T T1 := c1.sc (fun a j q => by omega)
        have f1 := sc1.fix fT
        have t71 : ∀ u, hI T1 7 u = if u = D then (k : Int) else hI T 7 u := fun u => by
          rw [hT1, hI_wI]
          by_cases c : u = D
          · rw [if_pos ⟨rfl, c⟩, if_pos c]
          · rw [if_neg (by omega), if_neg c]
        have cw1 : CW G ins pl S T1 v l := by
          obtain ⟨⟨kp, fr⟩, ⟨a1, a2⟩, ⟨a3, a4⟩, a5, a6, a7⟩ := cwT
          refine ⟨⟨kp.tr sc1.kp, fr.tr (sc1.fr fT)⟩, ⟨by rw [sc1.1.1]; exact a1, by rw [sc1.1.2]; exact a2⟩, ⟨by rw [c1.i (by omega)]; exact a3, by rw [c1.i (by omega)]; exact a4⟩, fun q hq => (a5 q hq).ch c1 (fun a j z => by omega) hs.2.1, ?_, a7⟩
          have : hI T1 6 = hI T 6 := by funext u; exact c1.i (by omega)
          rw [this]; exact a6
        have C0 := C.kp cwT.1.1
        have C1 := C.kp cw1.1.1
        have e0 : f_X5_layOut_10 (fu + 1) (f_X5_layOut (n + 6)) (some (sh m)) (fst G w o) (some 5) D k T = if Bo (G 18 (fo G m k) = 0) = 0 then cI (f_X1_addNets (some 5) (G 20 (fo G m k)) T1) (fun v15 S14 => gd (isK S14 (some 5) 2) <| cV (f_X1_uniteOver (some 5) (some (pl (ins m) k)) (fst G w o) v15 S14) fun S17 => (gR S17 (some (pl (ins m) k)) 4 0).bind fun o20 => (chk ((D : Int) + 1)).bind fun z21 => cV (f_X5_layOut (n + 6) o20 v15 (some 5) z21 S17) fun S22 => (chk ((k : Int) + 1)).bind fun z24 => f_X5_layOut_10 fu (f_X5_layOut (n + 6)) (some (sh m)) (fst G w o) (some 5) D z24 S22) else cV (f_X1_addLeaf (some 5) (some (pl (ins m) k)) (fst G w o) ((D : Int) + 1) T1) fun S26 => (chk ((k : Int) + 1)).bind fun z29 => f_X5_layOut_10 fu (f_X5_layOut (n + 6)) (some (sh m)) (fst G w o) (some 5) D z29 S26 := by
          conv => lhs; unfold f_X5_layOut_10
          rw [c_in C0 hmm, Option.bind_some, c_a2 C0 hmm, Option.bind_some, if_neg (by omega), Option.bind_some, c_a1 C0 hmm, Option.bind_some, c_pl C0 gi hmm hkm, Option.bind_some, c_p0 C0 hmm hkm, Option.bind_some, c_in C0 fv, Option.bind_some, fr_5_1 fT, Option.bind_some, fs_7 fT _ (by omega) (by omega), Option.bind_some, tn, ← hT1, c_k1 C1 fv, gd_1, isLeaf_eq C1 fv, cI_s, c_a3 C1 fv, Option.bind_some, fk_5 f1, gd_1, chk_ok (x := (D : Int) + 1) (by omega) (by omega), Option.bind_some, gd_1]
        have nxt : ((k + 1 : Nat) : Int) = (k : Int) + 1 := by omega
        by_cases c : G 18 (fo G m k) = 0
        · rw [if_pos c] at es
          rw [es] at up
          have u2 := up.2.1
          have lel : wl (eL v o k) = wl v + 1 := rfl
          obtain ⟨T2, e2, cw2, s2⟩ := addLeaf_eq C hs gi f cw1 ov (by rw [mv]; exact hkm) (by omega) (fun u hu9 => by
            rw [dv] at hu9 ⊢
            rw [t71, wv]
            by_cases cu : u = D
            · rw [if_pos cu, if_pos cu]
            · rw [if_neg cu, if_neg cu]; exact t7 u (by omega))
          rw [mv, dv, fsv] at e2
          obtain ⟨T', l', e3, cw3, s3⟩ := ihd (k + 1) fu T2 l (by omega) (by omega) (by rw [es]; exact cw2) (fun u hu9 => by rw [s2, t71, if_neg (by omega)]; exact t7 u hu9)
          refine ⟨T', l', ?_, cw3, fun u hu9 => by rw [s3 u hu9, s2, t71, if_neg (by omega)]⟩
          rw [e0, if_neg (by rw [Bo_t c]; decide), e2, cV_s, chk_ok (by omega) (by omega), Option.bind_some, ← nxt]
          exact e3
        · rw [if_neg c] at es
          rw [es] at up fup f'
          obtain ⟨q1, q2, q3, q4, q5⟩ := eO_n v (fo G m k) o k
          rw [dv] at q4
          have f2 : WF G rk x (eO v (fo G m k) o k) := by
            have := f.o gi r2 (o := o) (k := k) ov (by rw [mv]; omega) (by rw [mv]; exact c)
            rw [mv] at this
            exact this
          have rr := r2 m k hmm hkm
          have nO : wn (eO v (fo G m k) o k) = wn v + 1 := rfl
          have cwk := wk_ok gi r2 n (wn v) (fo G m k) (eO v (fo G m k) o k) f2 (by omega) q1 (by omega)
          have fin := fst_up gi f' (wn (wk G n (wn v) (fo G m k) (eO v (fo G m k) o k)) - wn (eO v (fo G m k) o k)) (wn (eO v (fo G m k) o k)) (by have := cwk.1.1; omega)
          rw [show wn (eO v (fo G m k) o k) + (wn (wk G n (wn v) (fo G m k) (eO v (fo G m k) o k)) - wn (eO v (fo G m k) o k)) = wn (wk G n (wn v) (fo G m k) (eO v (fo G m k) o k)) by have := cwk.1.1; omega, fst_px cwk.1 _ (Nat.le_refl _)] at fin
          have eN : fst G (eO v (fo G m k) o k) (wn (eO v (fo G m k) o k)) = fst G v (wn v) + G 20 (fo G m k) := by
            have : fst G (eO v (fo G m k) o k) (wn (eO v (fo G m k) o k)) = fst G (eO v (fo G m k) o k) (wn v) + G 20 (wm (eO v (fo G m k) o k) (wn v)) := rfl
            rw [this, fst_px (Px.eO v (fo G m k) o k) _ (Nat.le_refl _), q1]
          obtain ⟨T2, T3, l2, e2, ⟨f2', kp2⟩, e3, cw3, s3⟩ := down_eq C hs gi r2 f cw1 ov mv hkm rfl c (by omega)
          have e9 : fst G (eO v (fo G m k) o k) (wn v) = fst G v (wn v) := fst_px (Px.eO v (fo G m k) o k) _ (Nat.le_refl _)
          obtain ⟨T4, l4, e4, cw4, s4⟩ := ih (wn v) (fo G m k) (eO v (fo G m k) o k) T3 l2 f2 (by omega) q1 (by omega) cw3 (fun u hu9 => by
            rw [q4] at hu9
            rw [s3, t71, q5, dv, wv]
            by_cases cu : u = D
            · rw [if_pos cu, if_pos cu]
            · rw [if_neg cu, if_neg cu]; exact t7 u (by omega)) (by have := up.2.1; omega) (by omega)
          rw [q4, e9] at e4
          rw [q4] at s4
          obtain ⟨T', l', e5, cw5, s5⟩ := ihd (k + 1) fu T4 l4 (by omega) (by omega) (by rw [es]; exact cw4) (fun u hu9 => by rw [s4 u (by omega), s3, t71, if_neg (by omega)]; exact t7 u hu9)
          refine ⟨T', l', ?_, cw5, fun u hu9 => by rw [s5 u hu9, s4 u (by omega), s3, t71, if_neg (by omega)]⟩
          have C3 := C.kp cw3.1.1
          rw [e0, if_pos (by rw [Bo_f c]), e2, cI_s, fk_5 f2', gd_1, ← fsv, e3, cV_s, c_p0 C3 hmm hkm, Option.bind_some, chk_ok (x := (D : Int) + 1) (by omega) (by omega), Option.bind_some, show (D : Int) + 1 = ((D + 1 : Nat) : Int) by omega, e4, cV_s, chk_ok (by omega) (by omega), Option.bind_some, ← nxt, fsv]
          exact e5
    obtain ⟨T', l', e, r⟩ := loop (G 18 m).toNat 0 FU T l (by omega) (FU_gt (by omega)) cw h7
    refine ⟨T', l', ?_, r⟩
    rw [show n + 1 + 6 = (n + 6) + 1 by omega]
    conv => lhs; unfold f_X5_layOut
    rw [if_pos (by omega)]
    exact e
end
