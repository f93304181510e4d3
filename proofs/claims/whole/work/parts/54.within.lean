/-! isWithin: of the class, of the model -/
variable {sh ins : Nat → Nat} {pl nt wy : Nat → Nat → Nat} {tg : Nat → Nat × Nat}
section
variable {G : Nat → Nat → Int} {S : AS}
theorem put_top (C : Cls sh ins pl nt wy tg G S) (hs : Stt S) (gi : GI G) {x : Nat} {T : AS} {L : List Nat} (hx : (x : Int) < G 14 1) (os : OS sh S T L (fun y => y ∈ L)) (hL : ∀ y, y ∈ L → (y : Int) < G 14 1) (hB : Bh G L) (hN : L.Nodup) : ∃ T' M, f_X5_putBehindParts 30 (some (sh x)) (some 2) 0 T = some ((0, 0, none), T') ∧ OS sh S T' (L ++ M) (fun y => y ∈ L ++ M) ∧ Bh G (L ++ M) ∧ (L ++ M).Nodup ∧ (∀ y, y ∈ L ++ M → (y : Int) < G 14 1) ∧ x ∈ L ++ M ∧ ∀ y, y ∈ M → Rc G x y := by
  obtain ⟨rk, r1, r2⟩ := gi.rank
  have := r1 x hx
  obtain ⟨T', M, H', e, q1, q2, q3, q4, q5, q6⟩ := put_eq C hs gi r1 r2 30 x 0 T L (fun y => y ∈ L) hx (by omega) (by omega) (by omega) os (fun y hy => Or.inl hy) (fun y hy => ⟨hy, hL y hy⟩) hB hN
  have hH : ∀ y, H' y ↔ y ∈ L ++ M := fun y => by rw [q2 y, List.mem_append]
  refine ⟨T', M, e, ⟨q1.1, q1.2.1, q1.2.2.1, fun y hy => ⟨(q1.2.2.2 y hy).1, (q1.2.2.2 y hy).2.trans (hH y)⟩⟩, q4, q5, fun y hy => ?_, (hH x).mp q3, fun y hy => (q6 y hy).2.2⟩
  rcases List.mem_append.mp hy with z | z
  · exact hL y z
  · exact (q6 y z).1
theorem orderFrom_eq (C : Cls sh ins pl nt wy tg G S) (hs : Stt S) (gi : GI G) {x : Nat} {T : AS} (hsc : Sc S T) (hx : (x : Int) < G 14 1) : ∃ T' L, f_X5_orderFrom (some 0) (some (sh x)) T = some ((0, 0, none), T') ∧ OS sh S T' L (fun y => y ∈ L) ∧ Bh G L ∧ L.Nodup ∧ (∀ y, y ∈ L → (y : Int) < G 14 1) ∧ x ∈ L ∧ ∀ y, y ∈ L → Rc G x y := by
  have hT := hsc.stt hs
  obtain ⟨T1, e1, o1⟩ := restart_eq (sh := sh) hsc hT.1
  have h1 := o1.1.stt hs
  obtain ⟨T2, M, e2, o2, b2, n2, l2, x2, r2⟩ := put_top C hs gi hx (L := []) ⟨o1.1, o1.2.1, o1.2.2.1, fun y hy => ⟨(o1.2.2.2 y hy).1, (o1.2.2.2 y hy).2.trans (by simp)⟩⟩ (fun y hy => absurd hy List.not_mem_nil) (fun p hp => absurd hp (Nat.not_lt_zero _)) List.nodup_nil
  rw [List.nil_append] at o2 b2 n2 l2 x2
  refine ⟨T2, M, ?_, o2, b2, n2, l2, x2, r2⟩
  unfold f_X5_orderFrom
  rw [fr_0_2 hT.1, Option.bind_some, fk_2 hT.1, gd_1, e1, cV_s, fr_0_2 h1.1, Option.bind_some, e2, cV_s, rV_s]
theorem Bh.cl {L : List Nat} (h : Bh G L) {z k : Nat} (hz : z ∈ L) (hk : (k : Int) < G 18 z) : fo G z k ∈ L := by
  obtain ⟨p, hp, e⟩ := List.getElem_of_mem hz
  subst e
  obtain ⟨q, hq, -, e2⟩ := h p hp k hk
  rw [← e2]
  exact List.getElem_mem hq
theorem within_eq (C : Cls sh ins pl nt wy tg G S) (hs : Stt S) (gi : GI G) {m x : Nat} (hm : (m : Int) < G 14 1) (hx : (x : Int) < G 14 1) [Decidable (Rc G x m)] : ∃ T, f_X5_isWithin (some 0) (some (sh m)) (some (sh x)) S = some ((0, Bo (Rc G x m), none), T) ∧ Sc S T := by
  obtain ⟨T, L, e, o, b, n, l, xl, r⟩ := orderFrom_eq C hs gi (Sc.rfl' S) hx
  have hT := o.1.stt hs
  have CT := C.kp o.1.kp
  have lm := gi.lt hm
  refine ⟨T, ?_, o.1⟩
  obtain ⟨o1, o2⟩ := o.2.2.2 m lm
  have v : hI T 4 m = Bo (Rc G x m) := by
    by_cases c : Rc G x m
    · rw [Bo_t c]
      exact o2.mpr (c (fun y => y ∈ L) xl (fun z k hz hzl hk => b.cl hzl hk))
    · rw [Bo_f c]
      rcases o1 with q | q
      · exact q
      · exact absurd (r m (o2.mp q)) c
  unfold f_X5_isWithin
  rw [fk_0 hs.1, gd_1, e, cV_s, fr_0_2 hT.1, Option.bind_some, fr_2_1 hT.1, Option.bind_some, c_i0 CT hm, Option.bind_some, fa_4 hT.1 (by omega) (by omega), Option.bind_some, tn, v]
  exact rZ_ok (Bo_01 _)
/-! the model's -/
def mc (G : Nat → Nat → Int) (T : AS) : Nat := cnt (fun k => decide (hI T 36 k = 1)) (G 14 1).toNat
/-- only the array at 36 was written -/
def A36 (S T : AS) : Prop := ∃ J, T = stI S J ∧ ∀ a j, a ≠ 36 → J a j = hI S a j
def WI (G : Nat → Nat → Int) (S T : AS) (x : Nat) : Prop := A36 S T ∧ (∀ k : Nat, (k : Int) < G 14 1 → (hI T 36 k = 0 ∨ hI T 36 k = 1) ∧ (hI T 36 k = 1 → Rc G x k)) ∧ hI T 36 x = 1
theorem A36.ok {S T : AS} (h : A36 S T) (hf : Fix S) (g : Ag G S) : Fix T ∧ Ag G T ∧ MF S T ∧ hI T 14 0 = hI S 14 0 := by
  obtain ⟨J, rfl, hJ⟩ := h
  exact ⟨hf.st J, fun a j hk => by rw [stI_hI, hJ a j (by unfold kor at hk; omega)]; exact g a j hk, ⟨J, rfl, fun a j ha => hJ a j (by omega)⟩, hJ 14 0 (by omega)⟩
theorem A36.w {S T : AS} (h : A36 S T) (k : Nat) (v : Int) : A36 S (wI T 36 k v) := by
  obtain ⟨J, rfl, hJ⟩ := h
  exact ⟨uq J 36 k v, rfl, fun a j ha => by rw [uq_ne (by omega)]; exact hJ a j ha⟩
/-- marks grow; the flag tells of it -/
def Gr (G : Nat → Nat → Int) (T T' : AS) (mo mo' : Int) : Prop := (∀ y : Nat, (y : Int) < G 14 1 → hI T 36 y = 1 → hI T' 36 y = 1) ∧ (mo' = 0 ∨ mo' = 1) ∧ (mo' = 0 → mo = 0 ∧ ∀ y : Nat, (y : Int) < G 14 1 → hI T' 36 y = hI T 36 y) ∧ (mo' = 1 → mo = 1 ∨ mc G T < mc G T')
theorem Gr.mc {T T' : AS} {mo mo' : Int} (h : Gr G T T' mo mo') : mc G T ≤ mc G T' := cnt_sub _ (fun k hk q => by
  simp at q ⊢
  exact h.1 k (by omega) q)
theorem Gr.tr {T U V : AS} {a b c : Int} (h : Gr G T U a b) (g : Gr G U V b c) : Gr G T V a c := by
  have m1 := h.mc
  have m2 := g.mc
  refine ⟨fun y hy q => g.1 y hy (h.1 y hy q), g.2.1, fun q => ?_, fun q => ?_⟩
  · obtain ⟨q1, q2⟩ := g.2.2.1 q
    obtain ⟨q3, q4⟩ := h.2.2.1 q1
    exact ⟨q3, fun y hy => (q2 y hy).trans (q4 y hy)⟩
  · rcases g.2.2.2 q with z | z
    · rcases h.2.2.2 z with w | w
      · exact Or.inl w
      · exact Or.inr (by omega)
    · exact Or.inr (by omega)
theorem Gr.rfl' (T : AS) {mo : Int} (h : mo = 0 ∨ mo = 1) : Gr G T T mo mo := ⟨fun _ _ q => q, h, fun q => ⟨q, fun _ _ => rfl⟩, fun q => Or.inl q⟩
theorem within_55 (h : Fix S) (g : Ag G S) (gi : GI G) {x m k : Nat} (hk9 : (k : Int) < G 14 1) (k34 : Option Nat → Int → Int → AS → Option RS) (k43 : Option Nat → Int → Int → Int → AS → Option RS) : ∀ (e i fu : Nat) (T : AS) (mo : Int), (G 18 k).toNat = i + e → e < fu → WI G S T x → hI T 36 k = 1 → (mo = 0 ∨ mo = 1) → ∃ T' mo', f_X6_isWithin_55 fu k34 k43 (some 14) m mo k i T = k43 (some 14) m mo' ((k : Int) + 1) T' ∧ WI G S T' x ∧ Gr G T T' mo mo' ∧ (mo' = 0 → ∀ j : Nat, i ≤ j → (j : Int) < G 18 k → hI T' 36 (fo G k j) = 1) := by
  intro e
  have lk := gi.lt hk9
  have ni := gi.ni hk9
  induction e with
  | zero =>
    intro i fu T mo hi hf hw hm1 hmo
    obtain ⟨fu, rfl⟩ : ∃ z, fu = z + 1 := ⟨fu - 1, by omega⟩
    obtain ⟨fT, gT, -, -⟩ := hw.1.ok h g
    refine ⟨T, mo, ?_, hw, Gr.rfl' T hmo, fun _ j h1 h2 => by omega⟩
    unfold f_X6_isWithin_55
    rw [fr_14_5 fT, Option.bind_some, ma_18 fT gT (by omega) (by omega), Option.bind_some, tn, if_pos (by omega), chk_ok (by omega) (by omega), Option.bind_some]
  | succ e ih =>
    intro i fu T mo hi hf hw hm1 hmo
    obtain ⟨fu, rfl⟩ : ∃ z, fu = z + 1 := ⟨fu - 1, by omega⟩
    obtain ⟨fT, gT, -, -⟩ := hw.1.ok h g
    have hik : (i : Int) < G 18 k := by omega
    have ef := gi.fv hk9 hik
    have e1 : (64 * (k : Int) + (i : Int)).toNat = 64 * k + i := by omega
    have lf := gi.lt ef.2
    obtain ⟨mo1, hm01, hmz, e0⟩ : ∃ mo1 : Int, (mo1 = 0 ∨ mo1 = 1) ∧ (mo1 = 0 ↔ mo = 0 ∧ hI T 36 (fo G k i) ≠ 0) ∧ f_X6_isWithin_55 (fu + 1) k34 k43 (some 14) m mo k i T = f_X6_isWithin_55 fu k34 k43 (some 14) m mo1 k ((i + 1 : Nat) : Int) (wI T 36 (fo G k i) 1) := by
      have st : ∀ t0, f_X6_isWithin_112 k34 k43 (f_X6_isWithin_55 fu k34 k43) (some 14) m k i (fo G k i : Int) t0 T = f_X6_isWithin_55 fu k34 k43 (some 14) m t0 k ((i + 1 : Nat) : Int) (wI T 36 (fo G k i) 1) := fun t0 => by
        unfold f_X6_isWithin_112
        rw [fr_14_26 fT, Option.bind_some, fs_36 fT _ (by omega) (by omega), Option.bind_some, tn, chk_ok (by omega) (by omega), Option.bind_some]
        rfl
      have ea : f_X6_isWithin_55 (fu + 1) k34 k43 (some 14) m mo k i T = if mo = 0 then (if hI T 36 (fo G k i) = 0 then f_X6_isWithin_55 fu k34 k43 (some 14) m 1 k ((i + 1 : Nat) : Int) (wI T 36 (fo G k i) 1) else f_X6_isWithin_55 fu k34 k43 (some 14) m 0 k ((i + 1 : Nat) : Int) (wI T 36 (fo G k i) 1)) else f_X6_isWithin_55 fu k34 k43 (some 14) m 1 k ((i + 1 : Nat) : Int) (wI T 36 (fo G k i) 1) := by
        conv => lhs; unfold f_X6_isWithin_55
        unfold f_X6_isWithin_107
        rw [fr_14_5 fT, Option.bind_some, ma_18 fT gT (by omega) (by omega), Option.bind_some, tn, if_neg (by omega), fr_14_26 fT, Option.bind_some, fa_36 fT (by omega) (by omega), Option.bind_some, tn, hm1, if_pos rfl, fr_14_6 fT, Option.bind_some, chk_ok (x := 64 * (k : Int)) (by omega) (by omega), Option.bind_some, chk_ok (x := 64 * (k : Int) + (i : Int)) (by omega) (by omega), Option.bind_some, ma_19 fT gT (by omega) (by omega), Option.bind_some, e1, ef.1, Option.bind_some, fa_36 fT (by omega) (by omega), Option.bind_some, tn, st 1, st 0]
      rw [ea]
      by_cases c0 : mo = 0
      · rw [if_pos c0]
        by_cases c1 : hI T 36 (fo G k i) = 0
        · rw [if_pos c1]
          exact ⟨1, Or.inr rfl, by simp [c1], rfl⟩
        · rw [if_neg c1]
          exact ⟨0, Or.inl rfl, by simp [c0, c1], rfl⟩
      · rw [if_neg c0]
        exact ⟨1, Or.inr rfl, by simp [c0], rfl⟩
    have w36 : ∀ y, hI (wI T 36 (fo G k i) 1) 36 y = if y = fo G k i then 1 else hI T 36 y := fun y => by
      rw [hI_wI]
      by_cases c : y = fo G k i
      · rw [if_pos ⟨rfl, c⟩, if_pos c]
      · rw [if_neg (by omega), if_neg c]
    have hw1 : WI G S (wI T 36 (fo G k i) 1) x := by
      refine ⟨hw.1.w _ _, fun y hy => ?_, ?_⟩
      · rw [w36]
        by_cases c : y = fo G k i
        · rw [if_pos c]
          refine ⟨Or.inr rfl, fun _ P hP hc => ?_⟩
          rw [c]
          exact hc k i hk9 ((hw.2.1 k hk9).2 hm1 P hP hc) hik
        · rw [if_neg c]
          exact hw.2.1 y hy
      · rw [w36]
        split
        · rfl
        · exact hw.2.2
    have gr1 : Gr G T (wI T 36 (fo G k i) 1) mo mo1 := by
      refine ⟨fun y hy q => ?_, hm01, fun q => ?_, fun q => ?_⟩
      · rw [w36]
        split
        · rfl
        · exact q
      · obtain ⟨q1, q2⟩ := hmz.mp q
        refine ⟨q1, fun y hy => ?_⟩
        rw [w36]
        by_cases c : y = fo G k i
        · rw [if_pos c, c]
          rcases (hw.2.1 _ ef.2).1 with z | z
          · exact absurd z q2
          · exact z.symm
        · rw [if_neg c]
      · rcases hmo with z | z
        · by_cases c1 : hI T 36 (fo G k i) = 0
          · refine Or.inr (cnt_lt (j := fo G k i) (fun y hy w => ?_) (by have := ef.2; omega) (by simp [c1]) (by simp [w36]))
            simp at w ⊢
            rw [w36]
            split
            · rfl
            · exact w
          · have := hmz.mpr ⟨z, c1⟩
            omega
        · exact Or.inl z
    obtain ⟨T', mo', e2, w2, gr2, cl⟩ := ih (i + 1) fu _ mo1 (by omega) (by omega) hw1 (by rw [w36]; split <;> first | rfl | exact hm1) hm01
    refine ⟨T', mo', e0.trans e2, w2, gr1.tr gr2, fun q j h1 h2 => ?_⟩
    by_cases c : j = i
    · subst c
      exact gr2.1 _ ef.2 (by rw [w36, if_pos rfl])
    · exact cl q j (by omega) h2
theorem within_43 (h : Fix S) (g : Ag G S) (gi : GI G) {x m : Nat} (k34 : Option Nat → Int → Int → AS → Option RS) : ∀ (e k fu : Nat) (T : AS) (mo : Int), (G 14 1).toNat = k + e → e < fu → WI G S T x → (mo = 0 ∨ mo = 1) → ∃ T' mo', f_X6_isWithin_43 fu k34 (some 14) m mo k T = k34 (some 14) m mo' T' ∧ WI G S T' x ∧ Gr G T T' mo mo' ∧ (mo' = 0 → ∀ y j : Nat, k ≤ y → (y : Int) < G 14 1 → (j : Int) < G 18 y → hI T' 36 y = 1 → hI T' 36 (fo G y j) = 1) := by
  intro e
  have l0 := gi.1
  induction e with
  | zero =>
    intro k fu T mo hk hf hw hmo
    obtain ⟨fu, rfl⟩ : ∃ z, fu = z + 1 := ⟨fu - 1, by omega⟩
    obtain ⟨fT, gT, -, -⟩ := hw.1.ok h g
    refine ⟨T, mo, ?_, hw, Gr.rfl' T hmo, fun _ y j h1 h2 => by omega⟩
    unfold f_X6_isWithin_43
    rw [mg_1 fT gT, Option.bind_some, if_pos (by omega)]
  | succ e ih =>
    intro k fu T mo hk hf hw hmo
    obtain ⟨fu, rfl⟩ : ∃ z, fu = z + 1 := ⟨fu - 1, by omega⟩
    obtain ⟨fT, gT, -, -⟩ := hw.1.ok h g
    have hkm : (k : Int) < G 14 1 := by omega
    have lk := gi.lt hkm
    have ni := gi.ni hkm
    have e0 : f_X6_isWithin_43 (fu + 1) k34 (some 14) m mo k T = f_X6_isWithin_55 FU k34 (f_X6_isWithin_43 fu k34) (some 14) m mo k ((0 : Nat) : Int) T := by
      conv => lhs; unfold f_X6_isWithin_43
      rw [mg_1 fT gT, Option.bind_some, if_neg (by omega)]
      rfl
    by_cases c1 : hI T 36 k = 1
    · obtain ⟨T1, mo1, e1, w1, gr1, cl1⟩ := within_55 h g gi (x := x) (m := m) hkm k34 (f_X6_isWithin_43 fu k34) (G 18 k).toNat 0 FU T mo (by omega) (FU_gt (by omega)) hw c1 hmo
      obtain ⟨T', mo', e2, w2, gr2, cl2⟩ := ih (k + 1) fu T1 mo1 (by omega) (by omega) w1 gr1.2.1
      refine ⟨T', mo', e0.trans (e1.trans e2), w2, gr1.tr gr2, fun q y j h1 h2 h3 h4 => ?_⟩
      obtain ⟨q1, q2⟩ := gr2.2.2.1 q
      by_cases c : y = k
      · subst c
        exact gr2.1 _ (gi.fv hkm h3).2 (cl1 q1 j (Nat.zero_le _) h3)
      · exact cl2 q y j (by omega) h2 h3 h4
    · have z0 : hI T 36 k = 0 := by
        rcases (hw.2.1 k hkm).1 with z | z
        · exact z
        · exact absurd z c1
      obtain ⟨T', mo', e2, w2, gr2, cl2⟩ := ih (k + 1) fu T mo (by omega) (by omega) hw hmo
      refine ⟨T', mo', e0.trans (Eq.trans ?_ e2), w2, gr2, fun q y j h1 h2 h3 h4 => ?_⟩
      · obtain ⟨fu2, hfu⟩ : ∃ z, FU = z + 1 := ⟨FU - 1, by have := FU_gt (n := 0) (by decide); omega⟩
        rw [hfu]
        conv => lhs; unfold f_X6_isWithin_55
        rw [fr_14_5 fT, Option.bind_some, ma_18 fT gT (by omega) (by omega), Option.bind_some, tn]
        by_cases cn : G 18 k ≤ 0
        · rw [if_pos (by omega), chk_ok (by omega) (by omega), Option.bind_some]
          rfl
        · rw [if_neg (by omega), fr_14_26 fT, Option.bind_some, fa_36 fT (by omega) (by omega), Option.bind_some, tn, if_neg c1, chk_ok (by omega) (by omega), Option.bind_some]
          rfl
      · obtain ⟨q1, q2⟩ := gr2.2.2.1 q
        by_cases c : y = k
        · subst c
          rw [q2 y hkm] at h4
          exact absurd h4 c1
        · exact cl2 q y j (by omega) h2 h3 h4
theorem within_34 (h : Fix S) (g : Ag G S) (gi : GI G) {x m : Nat} (hx : (x : Int) < G 14 1) (hm : (m : Int) < G 14 1) [Decidable (Rc G x m)] : ∀ (e fu : Nat) (T : AS), (G 14 1).toNat - mc G T ≤ e → e + 1 < fu → WI G S T x → ∃ T', f_X6_isWithin_34 fu (some 14) m 1 T = some ((0, Bo (Rc G x m), none), T') ∧ A36 S T' := by
  intro e
  have l0 := gi.1
  induction e with
  | zero =>
    intro fu T he hf hw
    obtain ⟨fu, rfl⟩ : ∃ z, fu = z + 1 := ⟨fu - 1, by omega⟩
    obtain ⟨fu, rfl⟩ : ∃ z, fu = z + 1 := ⟨fu - 1, by omega⟩
    obtain ⟨T1, mo1, e1, w1, gr1, cl1⟩ := within_43 h g gi (x := x) (m := m) (f_X6_isWithin_34 (fu + 1)) (G 14 1).toNat 0 FU T 0 (by omega) (FU_gt (by omega)) hw (Or.inl rfl)
    have := cnt_le (fun k => decide (hI T1 36 k = 1)) (G 14 1).toNat
    have : mc G T1 ≤ (G 14 1).toNat := this
    have hmo : mo1 = 0 := by
      rcases gr1.2.1 with z | z
      · exact z
      · rcases gr1.2.2.2 z with w | w
        · omega
        · omega
    obtain ⟨fT, gT, -, -⟩ := w1.1.ok h g
    refine ⟨T1, ?_, w1.1⟩
    have lm := gi.lt hm
    have v : (hI T1 36 m = 1) ↔ Rc G x m := ⟨(w1.2.1 m hm).2, fun q => (q (fun y => (y : Int) < G 14 1 ∧ hI T1 36 y = 1) ⟨hx, w1.2.2⟩ (fun z k hz hz1 hk => ⟨(gi.fv hz hk).2, cl1 hmo z k (Nat.zero_le _) hz hk hz1.2⟩)).2⟩
    conv => lhs; unfold f_X6_isWithin_34
    rw [if_neg (by decide)]
    rw [show f_X6_isWithin_43 FU (f_X6_isWithin_34 (fu + 1)) (some 14) m 0 0 T = _ from e1, hmo]
    unfold f_X6_isWithin_34
    rw [if_pos rfl, fr_14_26 fT, Option.bind_some, fa_36 fT (by omega) (by omega), Option.bind_some, tn]
    by_cases c : Rc G x m
    · rw [if_pos (v.mpr c), Bo_t c, rZ_1]
    · rw [if_neg (fun q => c (v.mp q)), Bo_f c, rZ_0]
  | succ e ih =>
    intro fu T he hf hw
    obtain ⟨fu, rfl⟩ : ∃ z, fu = z + 1 := ⟨fu - 1, by omega⟩
    obtain ⟨T1, mo1, e1, w1, gr1, cl1⟩ := within_43 h g gi (x := x) (m := m) (f_X6_isWithin_34 fu) (G 14 1).toNat 0 FU T 0 (by omega) (FU_gt (by omega)) hw (Or.inl rfl)
    obtain ⟨fT, gT, -, -⟩ := w1.1.ok h g
    have lm := gi.lt hm
    have e2 : f_X6_isWithin_34 (fu + 1) (some 14) m 1 T = f_X6_isWithin_34 fu (some 14) m mo1 T1 := by
      conv => lhs; unfold f_X6_isWithin_34
      rw [if_neg (by decide)]
      exact e1
    rcases gr1.2.1 with hmo | hmo
    · refine ⟨T1, ?_, w1.1⟩
      obtain ⟨fu, rfl⟩ : ∃ z, fu = z + 1 := ⟨fu - 1, by omega⟩
      have v : (hI T1 36 m = 1) ↔ Rc G x m := ⟨(w1.2.1 m hm).2, fun q => (q (fun y => (y : Int) < G 14 1 ∧ hI T1 36 y = 1) ⟨hx, w1.2.2⟩ (fun z k hz hz1 hk => ⟨(gi.fv hz hk).2, cl1 hmo z k (Nat.zero_le _) hz hk hz1.2⟩)).2⟩
      rw [e2, hmo]
      unfold f_X6_isWithin_34
      rw [if_pos rfl, fr_14_26 fT, Option.bind_some, fa_36 fT (by omega) (by omega), Option.bind_some, tn]
      by_cases c : Rc G x m
      · rw [if_pos (v.mpr c), Bo_t c, rZ_1]
      · rw [if_neg (fun q => c (v.mp q)), Bo_f c, rZ_0]
    · have gr : mc G T < mc G T1 := by
        rcases gr1.2.2.2 hmo with z | z
        · omega
        · exact z
      rw [e2, hmo]
      exact ih fu T1 (by omega) (by omega) w1
theorem within_2 (h : Fix S) (g : Ag G S) (gi : GI G) {x m : Nat} (hx : (x : Int) < G 14 1) : ∀ (e k fu : Nat) (T : AS), (G 14 1).toNat = k + e → e < fu → A36 S T → (∀ y, y < k → hI T 36 y = if y = x then 1 else 0) → ∃ T', f_X6_isWithin_2 fu (some 14) m x k T = f_X6_isWithin_34 FU (some 14) m 1 T' ∧ A36 S T' ∧ ∀ y : Nat, (y : Int) < G 14 1 → hI T' 36 y = if y = x then 1 else 0 := by
  intro e
  have l0 := gi.1
  induction e with
  | zero =>
    intro k fu T hk hf ha hy
    obtain ⟨fu, rfl⟩ : ∃ z, fu = z + 1 := ⟨fu - 1, by omega⟩
    obtain ⟨fT, gT, -, -⟩ := ha.ok h g
    refine ⟨T, ?_, ha, fun y hy2 => hy y (by omega)⟩
    unfold f_X6_isWithin_2
    rw [mg_1 fT gT, Option.bind_some, if_pos (by omega)]
  | succ e ih =>
    intro k fu T hk hf ha hy
    obtain ⟨fu, rfl⟩ : ∃ z, fu = z + 1 := ⟨fu - 1, by omega⟩
    obtain ⟨fT, gT, -, -⟩ := ha.ok h g
    have lk : k < 24 := by omega
    have st : ∀ v : Int, v = (if k = x then 1 else 0) → ∀ y, y < k + 1 → hI (wI T 36 k v) 36 y = if y = x then 1 else 0 := fun v hv y hy2 => by
      rw [hI_wI]
      by_cases c : y = k
      · subst c
        rw [if_pos ⟨rfl, rfl⟩, hv]
      · rw [if_neg (by omega)]
        exact hy y (by omega)
    by_cases c : k = x
    · obtain ⟨T', e1, a1, y1⟩ := ih (k + 1) fu (wI T 36 k 1) (by omega) (by omega) (ha.w _ _) (st 1 (by rw [if_pos c]))
      refine ⟨T', Eq.trans ?_ e1, a1, y1⟩
      conv => lhs; unfold f_X6_isWithin_2
      rw [mg_1 fT gT, Option.bind_some, if_neg (by omega), fr_14_26 fT, Option.bind_some, if_pos (by omega), fs_36 fT _ (by omega) (by omega), Option.bind_some, tn, chk_ok (by omega) (by omega), Option.bind_some]
      rfl
    · obtain ⟨T', e1, a1, y1⟩ := ih (k + 1) fu (wI T 36 k 0) (by omega) (by omega) (ha.w _ _) (st 0 (by rw [if_neg c]))
      refine ⟨T', Eq.trans ?_ e1, a1, y1⟩
      conv => lhs; unfold f_X6_isWithin_2
      rw [mg_1 fT gT, Option.bind_some, if_neg (by omega), fr_14_26 fT, Option.bind_some, if_neg (by omega), fs_36 fT _ (by omega) (by omega), Option.bind_some, tn, chk_ok (by omega) (by omega), Option.bind_some]
      rfl
theorem within_m (h : Fix S) (g : Ag G S) (gi : GI G) {x m : Nat} (hx : (x : Int) < G 14 1) (hm : (m : Int) < G 14 1) [Decidable (Rc G x m)] : ∃ T', f_X6_isWithin (some 14) m x S = some ((0, Bo (Rc G x m), none), T') ∧ A36 S T' := by
  have l0 := gi.1
  obtain ⟨T1, e1, a1, y1⟩ := within_2 h g gi (m := m) hx (G 14 1).toNat 0 FU S (by omega) (FU_gt (by omega)) ⟨hI S, rfl, fun _ _ _ => rfl⟩ (fun y hy => absurd hy (Nat.not_lt_zero _))
  have w1 : WI G S T1 x := ⟨a1, fun k hk => by
    rw [y1 k hk]
    by_cases c : k = x
    · rw [if_pos c]
      exact ⟨Or.inr rfl, fun _ P hP _ => by rw [c]; exact hP⟩
    · rw [if_neg c]
      exact ⟨Or.inl rfl, fun q => by omega⟩, by rw [y1 x hx, if_pos rfl]⟩
  obtain ⟨T', e2, a2⟩ := within_34 h g gi hx hm 24 FU T1 (by omega) (FU_gt (by omega)) w1
  exact ⟨T', e1.trans e2, a2⟩
end
