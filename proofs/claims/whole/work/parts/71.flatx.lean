/-! the flat module in the maths -/
variable {sh ins : Nat → Nat} {pl nt wy : Nat → Nat → Nat} {tg : Nat → Nat × Nat}
section
variable {G G' : Nat → Nat → Int} {S : AS} {rk : Nat → Nat} {x : Nat} {w : WT} {m t c : Nat} {l : Nat → Nat}
theorem Fs.ad (gi : GI G) (h : Fs G G' m t w l c) : Ad G G' t := by
  obtain ⟨⟨e1, e2⟩, p2, ⟨c18, c20, c21, c9⟩, h17, old, -, -, -⟩ := h
  have ol : ∀ {a j : Nat}, (15 ≤ a ∧ a ≤ 24) → ¬ nt9 t a j → G' a j = G a j := fun ha hx => old _ _ (Or.inl ha) hx
  have pa : ∀ y, y < t → G 15 y ≤ 16 → PA G G' y := fun y hy hp => ⟨ol (by omega) (by unfold nt9; omega), fun k hk9 => ⟨ol (by omega) (by unfold nt9; omega), ol (by omega) (by unfold nt9; omega)⟩⟩
  refine ⟨⟨e1, e2⟩, fun i hi => ?_, by rw [c9]; omega⟩
  have hi' : (i : Int) < G 14 1 := by omega
  have ni := gi.ni hi'
  have pw := gi.pw hi'
  have e22 : ∀ q, q < 8320 → G' 22 (8320 * i + q) = G 22 (8320 * i + q) := fun q hq => ol (by omega) (by unfold nt9; omega)
  refine ⟨⟨pa i hi pw.2.1, ⟨ol (by omega) (by unfold nt9; omega), ol (by omega) (by unfold nt9; omega)⟩, fun q hq => ?_, fun k hk9 => ⟨ol (by omega) (by unfold nt9; omega), ol (by omega) (by unfold nt9; omega), fun u hu9 => ol (by omega) (by unfold nt9; omega), fun q hq => ?_, pa _ ?_ ?_⟩⟩, ⟨pa i hi pw.2.1, ⟨ol (by omega) (by unfold nt9; omega), ol (by omega) (by unfold nt9; omega)⟩, fun k hk9 => ⟨ol (by omega) (by unfold nt9; omega), ol (by omega) (by unfold nt9; omega)⟩, e22, ?_, by rw [e2]; omega⟩, ol (by omega) (by unfold nt9; omega)⟩
  · have := e22 (8192 + q) (by omega)
    rw [← Nat.add_assoc] at this
    exact this
  · have := e22 (128 * k + q) (by omega)
    rw [← Nat.add_assoc] at this
    exact this
  · have := (gi.fv hi' hk9).2
    omega
  · exact (gi.pw (gi.fv hi' hk9).2).2.1
  · have e21 : G' 21 i = G 21 i := ol (by omega) (by unfold nt9; omega)
    rw [c9, e21]
    have := (gi.at hi').2.2.2.2.2.2.2
    omega
theorem cnt_up {f : Nat → Bool} {r : Nat} (hr : f r = true) : ∀ d, cnt f r < cnt f (r + 1 + d) := by
  intro d
  induction d with
  | zero => rw [Nat.add_zero, cnt_s, if_pos hr]; omega
  | succ d ih =>
    rw [show r + 1 + (d + 1) = r + 1 + d + 1 by omega, cnt_s]
    omega
theorem ren_lt {E : Nat → Nat → Prop} {N : Nat} (lb : Lb E N l) {s v : Int} (hv : v ≠ -1 → 0 ≤ s + v ∧ s + v < N) : -1 ≤ ren (nu l) s v ∧ ren (nu l) s v < cnt (fun i => decide (l i = i)) N := by
  unfold ren
  by_cases z : v = -1
  · rw [if_pos z]; omega
  · rw [if_neg z]
    have b := hv z
    have hy : (s + v).toNat < N := by omega
    have ly := (lb.1 _ hy).1
    have lt := cnt_up (f := fun i => decide (l i = i)) (r := l (s + v).toNat) (by simp [lb.id hy]) (N - (l (s + v).toNat + 1))
    rw [show l (s + v).toNat + 1 + (N - (l (s + v).toNat + 1)) = N by omega] at lt
    unfold nu
    omega
theorem GI.flat (gi : GI G) (hw : WF G rk m w) {N : Nat} (h : Fs G G' m t w l c) (ht : t < 24) (hm : m < t) (hN : fst G w (wn w) = N) (lb : Lb (EE G w) N l) (hc : c = cnt (fun i => decide (l i = i)) N) (hc9 : c ≤ 128) (h64 : wl w ≤ 64) (hb : G 14 9 ≤ 1000) : GI G' := by
  have ad := h.ad gi
  obtain ⟨⟨e1, e2⟩, p2, ⟨c18, c20, c21, c9⟩, h17, old, own, fq, rest⟩ := h
  have hm' : (m : Int) < G 14 1 := by omega
  have leaf : ∀ q, q < wl w → (wm w (wo w q) : Int) < G 14 1 ∧ (wj w q : Int) < G 18 (wm w (wo w q)) ∧ wo w q < wn w ∧ (lf9 G w q : Int) < G 14 1 := fun q hq => by
    obtain ⟨a1, a2, -⟩ := hw.2.2.2 q hq
    have a3 := (hw.2.1 _ a1).1
    exact ⟨a3, a2, a1, (gi.fv a3 a2).2⟩
  have r0 : ∀ q, q < 128 → -1 ≤ ren (nu l) 0 (qn G m 0 q) ∧ ren (nu l) 0 (qn G m 0 q) < c := fun q hq => by
    rw [hc]
    refine ren_lt lb (fun z => ?_)
    have b := qn_lt gi hm' (j := 0) (p := q) (by omega) hq
    have := fst_in gi hw hw.1.1 (v := qn G m 0 q) (by omega) (by rw [hw.1.2.1]; exact b.2)
    rw [hN] at this
    exact this
  have rq : ∀ q p, q < wl w → p < 128 → -1 ≤ ren (nu l) (fst G w (wo w q)) (qn G (wm w (wo w q)) (wj w q + 1) p) ∧ ren (nu l) (fst G w (wo w q)) (qn G (wm w (wo w q)) (wj w q + 1) p) < c := fun q p hq hp => by
    obtain ⟨b1, b2, b3, b4⟩ := leaf q hq
    have ni := gi.ni b1
    rw [hc]
    refine ren_lt lb (fun z => ?_)
    have b := qn_lt gi b1 (j := wj w q + 1) (p := p) (by omega) hp
    have := fst_in gi hw b3 (v := qn G (wm w (wo w q)) (wj w q + 1) p) (by omega) b.2
    rw [hN] at this
    exact this
  have ft : ∀ k : Nat, (k : Int) < G' 18 t → fo G' t k < t ∧ G' 19 (64 * t + k) = (lf9 G w k : Int) := fun k hk9 => by
    rw [c18] at hk9
    have := (fq k (by omega)).1
    have b := (leaf k (by omega)).2.2.2
    unfold fo
    rw [this]
    omega
  refine gi.ad ad ht (by rw [c9]; omega) h17 ⟨p2.pw (gi.pw hm'), by rw [c18]; omega, by rw [c20]; omega, fun k hk9 => ?_, fun q hq => ?_, fun k q hk9 hq => ?_, fun k hk9 => ?_, by rw [c21, c9]; omega⟩ (fun k hk9 => (ft k hk9).1)
  · have f := ft k hk9
    rw [c18] at hk9
    have b := (leaf k (by omega)).2.2.2
    rw [f.2, e2]
    omega
  · rw [own q hq, c20, pc_p2 p2 (gi.pw hm').1]
    refine ⟨(r0 q hq).1, (r0 q hq).2, fun z => ?_⟩
    rw [qn_own gi hm' z hq]
    rfl
  · rw [c20, c18]
    by_cases ck : k < wl w
    · have f4 := (fq k ck).2.2.2 q hq
      rw [f4]
      have r := rq k q ck hq
      refine ⟨?_, ?_, fun z => by omega⟩
      · split
        · exact r.1
        · omega
      · split
        · exact r.2
        · omega
    · rw [rest k q (by omega) hk9 hq]
      exact ⟨by omega, by omega, fun _ => rfl⟩
  · rw [c18] at hk9
    have f2 := (fq k (by omega)).2.1
    have b := (leaf k (by omega)).2.2.1
    have d := (hw.2.1 _ b).2
    rw [f2]
    omega
/-- the flat inside, made -/
theorem insideFor_eq (C : Cls sh ins pl nt wy tg G S) (gi : GI G) (hw : WF G rk m w) {N s0 a : Nat} (hm : (m : Int) < G 14 1) (hN : fst G w (wn w) = N) (hN3 : N ≤ 3000) (h64 : wl w ≤ 64) (fS : Fix S) (ha : hn S = a) (h39 : 39 ≤ s0) (hs0 : s0 + wl w = a) (rm : hn S + 203 ≤ CM ∧ hu S + 9200 ≤ UM) (h56 : hI S 5 6 = (wl w : Int)) (h6 : ∀ y, y < N → hI S 6 y = (nu l y : Int)) (lq : ∀ q, q < wl w → Lq G ins pl s0 S w q) (c9 : Int) : ∃ U, f_X1_insideFor (some 5) (some (sh m)) c9 S = some ((0, 0, some a), U) ∧ (hn U = a + 3 + 2 * wl w ∧ hu U ≤ hu S + 197 + 131 * wl w) ∧ (∀ y, y < a → Od y S U) ∧ (hk U a = 1 ∧ hk U (a + 1) = 8 ∧ hk U (a + 2) = 10) ∧ (hl U (a + 1) = 128 ∧ hl U (a + 2) = 64) ∧ (hR U a 0 = some (a + 1) ∧ hR U a 1 = some (a + 2)) ∧ (hI U a 2 = (wl w : Int) ∧ hI U a 3 = c9 ∧ hI U a 4 = 1) ∧ (∀ q, q < 128 → hI U (a + 1) q = ren (nu l) 0 (qn G m 0 q)) ∧ ∀ q, q < wl w → Iq G sh l U w s0 a q := by
  obtain ⟨T1, e1, nw1, in0⟩ := newInside (S := S) (by omega) (by omega)
  rw [ha] at e1 in0
  obtain ⟨⟨y1, y2, y3⟩, ⟨y4, y5⟩, ⟨y6, y7⟩, ⟨y8, y9, y10⟩, y11⟩ := in0
  have n1 : hn T1 = a + 3 := by rw [nw1.1, ha]
  have f1 := nw1.fix fS (by omega)
  obtain ⟨T2, hT2⟩ : ∃ T2, T2 = wI T1 a 3 c9 := ⟨_, rfl⟩
  have f2 : Fix T2 := by rw [hT2]; exact f1.wI _ _ _
  have o2 : ∀ y, y < a → Od y S T2 := fun y hy => (nw1.2.2 y (by omega)).tr (by rw [hT2]; exact Od.w (by omega))
  have C2 : Cls sh ins pl nt wy tg G T2 := C.kp ⟨by rw [hT2, hn_wI, n1]; omega, fun y g1 g2 => o2 y (by omega), (o2 0 (by omega)).2.2.1 1, (o2 1 (by omega)).2.2.2⟩
  have A := C.ia hm
  have A2 := C2.ia hm
  have k2 : hk T2 a = 1 := by rw [hT2]; exact y1
  have ni := gi.ni hm
  obtain ⟨T3, e3, c3, v3⟩ := renumber_eq (l := l) (N := N) (f := ins m + 1) (t := a + 1) (n := 128) (s := 0) (g := fun p => qn G m 0 p) hN3 (by have := A.1; omega) (by omega) (by omega) (fun q hq => by
    have b := qn_lt gi hm (j := 0) (p := q) (by omega) hq
    refine ⟨b.1, fun z => ?_⟩
    have := fst_in gi hw hw.1.1 (v := qn G m 0 q) (by omega) (by rw [hw.1.2.1]; exact b.2)
    rw [hN] at this
    exact this) (by omega) f2 ⟨A2.2.1.2.1, A2.2.2.1.1⟩ (by rw [hT2]; exact ⟨y2, by rw [hl_wI, y4]; exact Nat.le_refl _⟩) (fun q hq => A2.2.2.2.2.2 q hq) (fun y hy => by rw [(o2 6 (by omega)).2.2.1]; exact h6 y hy)
  obtain ⟨z1, z2, z3, z4, z5⟩ := c3.sz
  have o3 : ∀ y, y < a → Od y S T3 := fun y hy => (o2 y hy).tr (c3.od (fun j q => by omega))
  have f3 := c3.fix f2
  have a3 : ∀ j, hI T3 a j = hI T2 a j := fun j => c3.i (by omega)
  have n3 : hn T3 = a + 3 := by rw [z1, hT2, hn_wI, n1]
  have u3 : hu T3 = hu S + 197 := by rw [z2, hT2, hu_wI, nw1.2.1]
  obtain ⟨U, e4, iU⟩ := insideFor_32 (sh := sh) (l := l) gi hw hN hN3 h64 (T := T3) (a := a) (s0 := s0) f3 n3 (by omega) (fun i hi => by
      have B := C.at hi
      rw [(o3 (sh i) (by have := B.1; omega)).1]
      exact ⟨B.2.1.1, by have := B.1; omega⟩) (fun q hq => by
      have := lq q hq
      rw [(o3 (s0 + q) (by omega)).1]
      exact ⟨this.2.2.2.1.1, h39, by omega⟩) (by rw [z5, hT2]; exact y7) (by rw [n3, u3]; omega) (fun q => pl (ins (wm w (wo w q))) (wj w q)) (fun q => nt (ins (wm w (wo w q))) (wj w q)) (fun q hq => by
      obtain ⟨b1, b2, -⟩ := hw.2.2.2 q hq
      have b3 := (hw.2.1 _ b1).1
      obtain ⟨p1, p2, p3, p4, p5, p6, p7⟩ := C.pa b3 b2
      obtain ⟨q1, q2, q3, q4, q5⟩ := lq q hq
      have oP := o3 (pl (ins (wm w (wo w q))) (wj w q)) (by omega)
      have oZ := o3 (nt (ins (wm w (wo w q))) (wj w q)) (by omega)
      refine ⟨⟨by rw [(o3 8 (by omega)).2.2.2]; exact q1, ⟨p2.1, by omega, by rw [oP.1]; exact p2.2.2⟩, ⟨by rw [oP.2.2.2]; exact p3.1, by rw [oP.2.2.2]; exact p3.2.2⟩, ⟨p4.1, by omega, by rw [oZ.1]; exact p4.2.2.1, by rw [oZ.2.1]; exact p4.2.2.2⟩, fun p hp => ?_, by rw [(o3 9 (by omega)).2.2.1]; exact q2, by rw [(o3 10 (by omega)).2.2.2]; exact q3⟩, by omega, by omega⟩
      rw [oZ.2.2.1, p6 p hp, qn_s]) (by rw [(o3 5 (by omega)).2.2.1]; exact h56) (fun y hy => by rw [(o3 6 (by omega)).2.2.1]; exact h6 y hy) (wl w) 0 FU T3 (by omega) (FU_gt (by omega)) ⟨⟨by omega, by omega⟩, fun y _ _ _ => Od.rfl' y T3, ⟨by rw [z3]; exact k2, by rw [z3, hT2]; exact y3, by rw [z4, hT2]; exact y5⟩, fun _ => rfl, fun j => by
        by_cases cj : j = 2
        · rw [if_pos cj, cj, a3, hT2, hI_wn (by omega)]; exact y8
        · rw [if_neg cj], fun q hq => absurd hq (Nat.not_lt_zero _)⟩
  obtain ⟨⟨g1, g2⟩, g3, ⟨g4, g5, g6⟩, g7, g8, g9⟩ := iU
  have ob := g3 (a + 1) (by omega) (by omega) (by omega)
  refine ⟨U, ?_, ⟨by rw [g1], by omega⟩, fun y hy => (o3 y hy).tr (g3 y (by omega) (by omega) (by omega)), ⟨g4, ?_, g5⟩, ⟨?_, g6⟩, ⟨?_, ?_⟩, ⟨?_, ?_, ?_⟩, fun q hq => ?_, g9⟩
  · unfold f_X1_insideFor
    rw [ha, e1, pI_at y1, Option.bind_some, ← hT2, c_in C2 hm, Option.bind_some, c_a0 C2 hm, Option.bind_some, gR_at k2, Option.bind_some, show hR T2 a 0 = some (a + 1) by rw [hT2]; exact y6, fk_5 f2, gd_1, e3, cV_s]
    exact e4
  · rw [ob.1, z3, hT2]; exact y2
  · rw [ob.2.1, z4, hT2]; exact y4
  · rw [g7, z5, hT2]; exact y6
  · rw [g7, z5, hT2]; exact y7
  · rw [g8, if_pos rfl]
  · rw [g8, if_neg (by omega), a3, hT2, hI_w0]
  · rw [g8, if_neg (by omega), a3, hT2, hI_wn (by omega)]; exact y10
  · rw [ob.2.2.1]; exact v3 q hq
end
