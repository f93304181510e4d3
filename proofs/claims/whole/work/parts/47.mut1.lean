/-! calls that change: net, join, part, clear -/
variable {sh ins : Nat → Nat} {pl nt wy : Nat → Nat → Nat} {tg : Nat → Nat × Nat}
/-- a call of the class: how it ends, and what becomes of G -/
def CX (S : AS) (c : Option RS) (e : Nat) (v : Int) (G' : Nat → Nat → Int) : Prop := ∃ (S' : AS) (sh ins : Nat → Nat) (pl nt wy : Nat → Nat → Nat) (tg : Nat → Nat × Nat), c = some ((e, v, none), S') ∧ Cls sh ins pl nt wy tg G' S' ∧ Fr S S' ∧ Bd 1000 13000 S S' ∧ hn S ≤ hn S'
theorem CO.cx {G : Nat → Nat → Int} {S : AS} {c : Option RS} {e : Nat} {v : Int} (C : Cls sh ins pl nt wy tg G S) (h : CO S c e v) : CX S c e v G := by
  obtain ⟨S', h1, h2, h3, h4⟩ := h
  exact ⟨S', sh, ins, pl, nt, wy, tg, h1, C.kp h2, h3, ⟨by have := h4.1; omega, by have := h4.2; omega⟩, h2.1⟩
/-! GI -/
def MA (G G' : Nat → Nat → Int) (i : Nat) : Prop := PA G G' i ∧ (G' 18 i = G 18 i ∧ G' 20 i = G 20 i) ∧ (∀ k : Nat, (k : Int) < G 18 i → G' 19 (64 * i + k) = G 19 (64 * i + k) ∧ G' 23 (64 * i + k) = G 23 (64 * i + k)) ∧ (∀ q, q < 8320 → G' 22 (8320 * i + q) = G 22 (8320 * i + q)) ∧ G' 21 i ≤ G' 14 9 ∧ G 14 1 ≤ G' 14 1
theorem MI.of {G G' : Nat → Nat → Int} {i : Nat} (h : MI G i) (a : MA G G' i) : MI G' i := by
  obtain ⟨h1, h2, h3, h4, h5, h6, h7, h8⟩ := h
  obtain ⟨a1, a2, a3, a4, a5, a6⟩ := a
  refine ⟨a1.pw h1, by rw [a2.1]; exact h2, by rw [a2.2]; exact h3, fun k hk => ?_, fun q hq => ?_, fun k q hk hq => ?_, fun k hk => ?_, a5⟩
  · rw [a2.1] at hk
    rw [(a3 k hk).1]
    have := h4 k hk
    omega
  · have e := a4 (8192 + q) (by omega)
    rw [← Nat.add_assoc] at e
    rw [e, a2.2, pc_congr a1 h1.1]
    exact h5 q hq
  · have e := a4 (128 * k + q) (by omega)
    rw [← Nat.add_assoc] at e
    rw [e, a2.2, a2.1]
    exact h6 k q hk hq
  · rw [a2.1] at hk
    rw [(a3 k hk).2]
    exact h7 k hk
theorem chg_9 {G : Nat → Nat → Int} {m : Nat} : G 14 9 ≤ chg G m 14 9 ∧ chg G m 14 9 ≤ G 14 9 + 1 := by
  unfold chg
  split
  · omega
  · rw [uq_ne (by omega), uq_at]; omega
theorem chg_21 {G : Nat → Nat → Int} (gi : GI G) {m i : Nat} (hi : (i : Int) < G 14 1) : chg G m 21 i ≤ chg G m 14 9 := by
  have h9 := (gi.at hi).2.2.2.2.2.2.2
  unfold chg
  split
  · exact h9
  · rw [show uq (uq G 14 9 (G 14 9 + 1)) 21 m (G 14 9 + 1) 14 9 = G 14 9 + 1 by rw [uq_ne (by omega), uq_at]]
    by_cases c : i = m
    · rw [c, uq_at]; omega
    · rw [uq_ne (by omega), uq_ne (by omega)]; omega
theorem GI.chg {G : Nat → Nat → Int} (gi : GI G) {m : Nat} (hb : G 14 9 ≤ 1000) : GI (chg G m) := by
  obtain ⟨h1, h2, ⟨rk, h3⟩, h4, h5⟩ := gi
  have gi : GI G := ⟨h1, h2, ⟨rk, h3⟩, h4, h5⟩
  have hG : ∀ a j, a ≠ 21 → (a = 14 → j ≠ 9) → Jvm.Pilot.CDesignTreesLaw_law_r7278_6f8192.chg G m a j = G a j := fun a j z1 z2 => chg_o ⟨z1, z2⟩
  have e1 := hG 14 1 (by omega) (by omega)
  have c9 := chg_9 (G := G) (m := m)
  refine ⟨by rw [e1]; exact h1, fun i hi => ?_, ⟨rk, fun i k hi hk => ?_⟩, ⟨by omega, by omega⟩, fun j => by rw [hG 17 j (by omega) (by omega)]; exact h5 j⟩
  · rw [e1] at hi
    exact (h2 i hi).of ⟨PA.of (fun a j ha => hG a j (by omega) (by omega)), ⟨hG _ _ (by omega) (by omega), hG _ _ (by omega) (by omega)⟩, fun k _ => ⟨hG _ _ (by omega) (by omega), hG _ _ (by omega) (by omega)⟩, fun q _ => hG _ _ (by omega) (by omega), chg_21 gi hi, by rw [e1]; omega⟩
  · rw [e1] at hi
    rw [hG 18 _ (by omega) (by omega)] at hk
    have : fo (Jvm.Pilot.CDesignTreesLaw_law_r7278_6f8192.chg G m) i k = fo G i k := by unfold fo; rw [hG 19 _ (by omega) (by omega)]
    rw [this]
    exact h3 i k hi hk
theorem GI.net {G : Nat → Nat → Int} (gi : GI G) {m : Nat} (hm : (m : Int) < G 14 1) (hn : G 20 m ≠ 128) : GI (uq G 20 m (G 20 m + 1)) := by
  obtain ⟨h1, h2, ⟨rk, h3⟩, h4, h5⟩ := gi
  have gi : GI G := ⟨h1, h2, ⟨rk, h3⟩, h4, h5⟩
  have hG : ∀ a j, a ≠ 20 → uq G 20 m (G 20 m + 1) a j = G a j := fun a j z1 => uq_ne (by omega)
  refine ⟨by rw [hG 14 1 (by omega)]; exact h1, fun i hi => ?_, ⟨rk, fun i k hi hk => ?_⟩, by rw [hG 14 9 (by omega)]; exact h4, fun j => by rw [hG 17 j (by omega)]; exact h5 j⟩
  · rw [hG 14 1 (by omega)] at hi
    by_cases c : i = m
    · subst c
      obtain ⟨q1, q2, q3, q4, q5, q6, q7, q8⟩ := h2 i hi
      have pa : PA G (uq G 20 i (G 20 i + 1)) i := PA.of (fun a j ha => hG a j (by omega))
      refine ⟨pa.pw q1, by rw [hG 18 i (by omega)]; exact q2, by rw [uq_at]; omega, fun k hk => ?_, fun q hq => ?_, fun k q hk hq => ?_, fun k hk => ?_, by rw [hG 21 i (by omega), hG 14 9 (by omega)]; exact q8⟩
      · rw [hG 18 i (by omega)] at hk
        rw [hG 19 _ (by omega), hG 14 1 (by omega)]; exact q4 k hk
      · rw [hG 22 _ (by omega), uq_at, pc_congr pa q1.1]
        have := q5 q hq
        exact ⟨this.1, by omega, this.2.2⟩
      · rw [hG 22 _ (by omega), uq_at, hG 18 i (by omega)]
        have := q6 k q hk hq
        exact ⟨this.1, by omega, this.2.2⟩
      · rw [hG 18 i (by omega)] at hk
        rw [hG 23 _ (by omega)]; exact q7 k hk
    · exact (h2 i hi).of ⟨PA.of (fun a j ha => hG a j (by omega)), ⟨hG _ _ (by omega), uq_ne (by omega)⟩, fun k _ => ⟨hG _ _ (by omega), hG _ _ (by omega)⟩, fun q _ => hG _ _ (by omega), by rw [hG 21 i (by omega), hG 14 9 (by omega)]; exact (h2 i hi).2.2.2.2.2.2.2, by rw [hG 14 1 (by omega)]; omega⟩
  · rw [hG 14 1 (by omega)] at hi
    rw [hG 18 _ (by omega)] at hk
    have : fo (uq G 20 m (G 20 m + 1)) i k = fo G i k := by unfold fo; rw [hG 19 _ (by omega)]
    rw [this]
    exact h3 i k hi hk
theorem jb_at {m i j p k q : Nat} (hp : p < 128) (hq : q < 128) (hj : jb j ≤ 64) (hk : k ≤ 64) : 8320 * i + 128 * k + q = 8320 * m + 128 * jb j + p ↔ i = m ∧ k = jb j ∧ q = p := by omega
theorem GI.join {G : Nat → Nat → Int} (gi : GI G) {m j p : Nat} {v : Int} (hm : (m : Int) < G 14 1) (hj : (j : Int) ≤ G 18 m) (hp : p < np G m j) (hv : -1 ≤ v ∧ v < G 20 m) : GI (uq G 22 (8320 * m + 128 * jb j + p) v) := by
  obtain ⟨h1, h2, ⟨rk, h3⟩, h4, h5⟩ := gi
  have gi : GI G := ⟨h1, h2, ⟨rk, h3⟩, h4, h5⟩
  have l1 := np_le gi hm hj
  have ni := gi.ni hm
  have lb : jb j ≤ 64 := by unfold jb; split <;> omega
  have hG : ∀ a k, a ≠ 22 → uq G 22 (8320 * m + 128 * jb j + p) v a k = G a k := fun a k z1 => uq_ne (by omega)
  refine ⟨by rw [hG 14 1 (by omega)]; exact h1, fun i hi => ?_, ⟨rk, fun i k hi hk => ?_⟩, by rw [hG 14 9 (by omega)]; exact h4, fun j => by rw [hG 17 j (by omega)]; exact h5 j⟩
  · rw [hG 14 1 (by omega)] at hi
    obtain ⟨q1, q2, q3, q4, q5, q6, q7, q8⟩ := h2 i hi
    have pa : ∀ x, PA G (uq G 22 (8320 * m + 128 * jb j + p) v) x := fun x => PA.of (fun a j ha => hG a j (by omega))
    refine ⟨(pa i).pw q1, by rw [hG 18 i (by omega)]; exact q2, by rw [hG 20 i (by omega)]; exact q3, fun k hk => ?_, fun q hq => ?_, fun k q hk hq => ?_, fun k hk => ?_, by rw [hG 21 i (by omega), hG 14 9 (by omega)]; exact q8⟩
    · rw [hG 18 i (by omega)] at hk
      rw [hG 19 _ (by omega), hG 14 1 (by omega)]; exact q4 k hk
    · rw [hG 20 i (by omega), pc_congr (pa i) q1.1]
      by_cases c : 8320 * i + 8192 + q = 8320 * m + 128 * jb j + p
      · rw [c, uq_at]
        have e : i = m ∧ 64 = jb j ∧ q = p := (jb_at (k := 64) (by omega) hq lb (by omega)).mp (by omega)
        obtain ⟨e1, e2, e3⟩ := e
        subst e1
        have ej : j = 0 := by unfold jb at e2; split at e2 <;> omega
        subst ej
        rw [show jm G i 0 = i from rfl] at l1
        exact ⟨hv.1, hv.2, fun z => by omega⟩
      · rw [uq_ne (Or.inr c)]; exact q5 q hq
    · rw [hG 20 i (by omega), hG 18 i (by omega)]
      by_cases c : 8320 * i + 128 * k + q = 8320 * m + 128 * jb j + p
      · rw [c, uq_at]
        obtain ⟨e1, e2, e3⟩ := (jb_at (k := k) (by omega) hq lb (by omega)).mp c
        subst e1
        refine ⟨hv.1, hv.2, fun z => ?_⟩
        unfold jb at e2
        split at e2 <;> omega
      · rw [uq_ne (Or.inr c)]; exact q6 k q hk hq
    · rw [hG 18 i (by omega)] at hk
      rw [hG 23 _ (by omega)]; exact q7 k hk
  · rw [hG 14 1 (by omega)] at hi
    rw [hG 18 _ (by omega)] at hk
    have : fo (uq G 22 (8320 * m + 128 * jb j + p) v) i k = fo G i k := by unfold fo; rw [hG 19 _ (by omega)]
    rw [this]
    exact h3 i k hi hk
theorem GI.clear {G : Nat → Nat → Int} (gi : GI G) : GI (uq G 14 1 0) := by
  obtain ⟨h1, h2, ⟨rk, h3⟩, h4, h5⟩ := gi
  refine ⟨by rw [uq_at]; decide, fun i hi => ?_, ⟨rk, fun i k hi hk => ?_⟩, by rw [uq_ne (by omega)]; exact h4, fun j => by rw [uq_ne (by omega)]; exact h5 j⟩
  · rw [uq_at] at hi; omega
  · rw [uq_at] at hi; omega
section
variable {G : Nat → Nat → Int} {S : AS}
/-- a net more in a module that is alone with its inside -/
theorem Cls.net (C : Cls sh ins pl nt wy tg G S) (gi : GI G) {m : Nat} (hm : (m : Int) < G 14 1) (al1 : ∀ j : Nat, (j : Int) < G 14 1 → j ≠ m → ins j ≠ ins m) (v : Int) : Cls sh ins pl nt wy tg (uq G 20 m v) (wI S (ins m) 3 v) := by
  have hG : ∀ a j, a ≠ 20 → uq G 20 m v a j = G a j := fun a j z1 => uq_ne (by omega)
  have e1 := hG 14 1 (by omega)
  have kA := (C.ia hm).2.1.1
  have lA := (C.ia hm).1
  have od : ∀ x, x ≠ ins m → Od x S (wI S (ins m) 3 v) := fun x hx => Od.w hx
  have okd : ∀ x, hk S x ≠ 1 → Od x S (wI S (ins m) 3 v) := fun x hx => od x (fun q => hx (by rw [q]; exact kA))
  have pa : ∀ x, PA G (uq G 20 m v) x := fun x => PA.of (fun a j ha => hG a j (by omega))
  have efo : ∀ i k, fo (uq G 20 m v) i k = fo G i k := fun i k => by unfold fo; rw [hG 19 _ (by omega)]
  have us : ∀ i, used (uq G 20 m v) i ↔ used G i := fun i => used_congr e1 (fun j k _ _ => efo j k) (fun j _ => hG 18 _ (by omega)) i
  have cj : ∀ i, cJ (uq G 20 m v) i = cJ G i := fun i => by unfold cJ; rw [e1]; exact cnt_congr _ (fun k _ => by rw [hG 21 k (by omega), hG 21 i (by omega)])
  refine ⟨?_, fun i hi => ?_, fun i j hi hj => ?_⟩
  · rw [e1, hI_wI, if_neg (by omega)]; exact C.1
  · rw [e1] at hi
    obtain ⟨-, is, ia, -, ip⟩ := C.mo hi
    have oS := okd (sh i) (by rw [is.2.1.1]; decide)
    have oS1 := okd (sh i + 1) (by rw [is.2.1.2.1]; decide)
    have oS2 := okd (sh i + 2) (by rw [is.2.1.2.2]; decide)
    have oA1 := okd (ins i + 1) (by rw [ia.2.1.2.1]; decide)
    have oA2 := okd (ins i + 2) (by rw [ia.2.1.2.2]; decide)
    have oP : ∀ k : Nat, (k : Int) < G 18 i → Od (pl (ins i) k) S (wI S (ins m) 3 v) ∧ Od (nt (ins i) k) S (wI S (ins m) 3 v) ∧ Od (wy (ins i) k) S (wI S (ins m) 3 v) := fun k hk => by
      obtain ⟨p1, p2, p3, p4, p5, p6, p7⟩ := (ip k hk).1
      exact ⟨okd _ (by rw [p2.2.2]; decide), okd _ (by rw [p4.2.2.1]; decide), okd _ (by rw [p5.2.2]; decide)⟩
    by_cases c : i = m
    · subst c
      obtain ⟨⟨a1, a2⟩, s, a, tgs, pls⟩ := C.mo hi
      obtain ⟨b1, b2, b3, b4, b5, b6⟩ := a
      obtain ⟨s1, s2, s3, s4, s5, s6, s7, s8⟩ := s
      have w := gi.pw hi
      refine ⟨⟨a1, a2⟩, ⟨s1, s2, s3, s4, ⟨by rw [oS.2.2.1]; exact s5.1, by rw [oS.2.2.1, (pa i).1]; exact s5.2.1, by rw [oS.2.2.1, pc_congr (pa i) w.1]; exact s5.2.2⟩, by rw [oS.2.2.1, us]; exact s6, fun k hk => ?_, fun q hq => ?_⟩, ⟨b1, b2, b3, b4, ⟨?_, ?_, ?_⟩, fun q hq => ?_⟩, tgs, fun k hk => ?_⟩
      · rw [oS1.2.2.1, s7 k hk, (pa i).1]
        by_cases c : (k : Int) < G 15 i
        · rw [if_pos c, if_pos c, ((pa i).2 k c).1]
        · rw [if_neg c, if_neg c]
      · rw [pc_congr (pa i) w.1] at hq
        rw [oS2.2.2.1, s8 q hq, ob_congr (pa i) w.1]
      · rw [hI_wI, if_neg (by omega), hG 18 i (by omega)]; exact b5.1
      · rw [hI_w0, uq_at]
      · rw [hI_wI, if_neg (by omega), cj]; exact b5.2.2
      · rw [oA1.2.2.1, hG 22 _ (by omega)]; exact b6 q hq
      · rw [hG 18 i (by omega)] at hk
        obtain ⟨⟨p1, p2, p3, p4, p5, p6, p7⟩, t1, t2⟩ := pls k hk
        obtain ⟨o1, o2, o3⟩ := oP k hk
        have lf := (gi.fv hi hk).2
        have wf := gi.pw lf
        refine ⟨⟨p1, p2, by rw [efo]; exact p3, by rw [efo, pc_congr (pa _) wf.1]; exact p4, p5, fun q hq => ?_, ?_⟩, t1, t2⟩
        · rw [efo, pc_congr (pa _) wf.1] at hq
          rw [o2.2.2.1, hG 22 _ (by omega)]; exact p6 q hq
        · have e23 : uq G 20 i v 23 (64 * i + k) = G 23 (64 * i + k) := hG 23 _ (by omega)
          refine ⟨fun z => ?_, fun z => ⟨?_, fun t ht => ?_⟩⟩
          · rw [e23] at z
            rw [o3.2.1, o3.2.2.1]; exact p7.1 z
          · rw [e23] at z ⊢
            rw [o3.2.1]; exact (p7.2 z).1
          · rw [e23] at z ht
            rw [o3.2.2.1, hG 24 _ (by omega)]; exact (p7.2 z).2 t ht
    · have oA := od (ins i) (al1 i hi c)
      refine MoF.keep gi hi (C.mo hi) rfl (fun _ _ => rfl) rfl (fun _ _ => ⟨rfl, rfl, rfl⟩) (fun _ _ => rfl) (Nat.le_refl _) rfl (oS.sa 5) oS1 oS2 (oA.sa 4) oA1 oA2 oP ⟨pa i, ⟨hG _ _ (by omega), uq_ne (by omega)⟩, fun q _ => hG _ _ (by omega), fun k _ => ⟨hG _ _ (by omega), hG _ _ (by omega), fun t _ => hG _ _ (by omega), fun q _ => hG _ _ (by omega), pa _⟩⟩ ?_ ?_
      · rw [oA.2.2.1, cj]; exact ia.2.2.2.2.1.2.2
      · rw [oS.2.2.1, us]; exact is.2.2.2.2.2.1
  · rw [e1] at hi hj
    rw [hG 21 i (by omega), hG 21 j (by omega)]
    exact C.2.2 i j hi hj
theorem na_k (C : Cls sh ins pl nt wy tg G S) (gi : GI G) {i j : Nat} (hi : (i : Int) < G 14 1) (hj : (j : Int) ≤ G 18 i) : hk S (na ins nt i j) = 8 ∧ hl S (na ins nt i j) = nl G i j ∧ tg (na ins nt i j) = (ins i, j) ∧ 39 ≤ na ins nt i j ∧ na ins nt i j < hn S := by
  unfold na nl
  obtain ⟨-, is, ia, tgs, ip⟩ := C.mo hi
  by_cases h0 : j = 0
  · rw [if_pos h0, if_pos h0, h0]
    exact ⟨ia.2.1.2.1, ia.2.2.1.1, tgs.2, by have := ia.1; omega, by have := ia.1; omega⟩
  · obtain ⟨⟨p1, p2, p3, p4, p5, p6, p7⟩, t1, t2⟩ := ip (j - 1) (by omega)
    have e := (np_le gi hi hj).2
    rw [show jm G i j = fo G i (j - 1) from if_neg h0] at e
    rw [if_neg h0, if_neg h0]
    exact ⟨p4.2.2.1, by omega, by rw [t1, show j - 1 + 1 = j by omega], p4.1, p4.2.1⟩
/-- a pin of a module that is alone with its inside comes into a net -/
theorem Cls.join (C : Cls sh ins pl nt wy tg G S) (gi : GI G) {m j p : Nat} (hm : (m : Int) < G 14 1) (hj : (j : Int) ≤ G 18 m) (hp : p < np G m j) (al1 : ∀ i : Nat, (i : Int) < G 14 1 → i ≠ m → ins i ≠ ins m) (v : Int) : Cls sh ins pl nt wy tg (uq G 22 (8320 * m + 128 * jb j + p) v) (wI S (na ins nt m j) p v) := by
  have l1 := np_le gi hm hj
  have ni := gi.ni hm
  have lb : jb j ≤ 64 := by unfold jb; split <;> omega
  obtain ⟨kN, lN, tN, nN, -⟩ := na_k C gi hm hj
  obtain ⟨g, hg⟩ : ∃ g, g = uq G 22 (8320 * m + 128 * jb j + p) v := ⟨_, rfl⟩
  rw [← hg]
  have hG : ∀ a k, a ≠ 22 → g a k = G a k := fun a k z1 => by rw [hg]; exact uq_ne (by omega)
  have h22 : ∀ i k q, k ≤ 64 → q < 128 → g 22 (8320 * i + 128 * k + q) = if i = m ∧ k = jb j ∧ q = p then v else G 22 (8320 * i + 128 * k + q) := fun i k q h1 h2 => by
    rw [hg]
    by_cases c : i = m ∧ k = jb j ∧ q = p
    · rw [if_pos c, c.1, c.2.1, c.2.2, uq_at]
    · rw [if_neg c, uq_ne (Or.inr (fun z => c ((jb_at (by omega) h2 lb h1).mp z)))]
  have h22o : ∀ i q, q < 128 → g 22 (8320 * i + 8192 + q) = if i = m ∧ 64 = jb j ∧ q = p then v else G 22 (8320 * i + 8192 + q) := fun i q h2 => by
    have := h22 i 64 q (by omega) h2
    rw [show 8320 * i + 128 * 64 + q = 8320 * i + 8192 + q by omega] at this
    exact this
  have e1 := hG 14 1 (by omega)
  have od : ∀ x, x ≠ na ins nt m j → Od x S (wI S (na ins nt m j) p v) := fun x hx => Od.w hx
  have okd : ∀ x, hk S x ≠ 8 → Od x S (wI S (na ins nt m j) p v) := fun x hx => od x (fun q => hx (by rw [q]; exact kN))
  have otg : ∀ x, tg x ≠ (ins m, j) → Od x S (wI S (na ins nt m j) p v) := fun x hx => od x (fun q => hx (by rw [q]; exact tN))
  have pa : ∀ x, PA G g x := fun x => PA.of (fun a j ha => hG a j (by omega))
  have efo : ∀ i k, fo g i k = fo G i k := fun i k => by unfold fo; rw [hG 19 _ (by omega)]
  have us : ∀ i, used g i ↔ used G i := fun i => used_congr e1 (fun j k _ _ => efo j k) (fun j _ => hG 18 _ (by omega)) i
  have cj : ∀ i, cJ g i = cJ G i := fun i => by unfold cJ; rw [e1]; exact cnt_congr _ (fun k _ => by rw [hG 21 k (by omega), hG 21 i (by omega)])
  have kAm := (C.ia hm).2.1.1
  have lAm := (C.ia hm).1.1
  refine ⟨?_, fun i hi => ?_, fun i j hi hj => ?_⟩
  · rw [e1, hI_wI, if_neg (by omega)]; exact C.1
  · rw [e1] at hi
    obtain ⟨⟨a1, a2⟩, is, ia, tgs, ip⟩ := C.mo hi
    have oS := okd (sh i) (by rw [is.2.1.1]; decide)
    have oS1 := otg (sh i + 1) (by
      rw [tgs.1]
      intro q
      have e : sh i = ins m := congrArg Prod.fst q
      have q1 := is.2.1.1
      rw [e, kAm] at q1
      exact absurd q1 (by decide))
    have oS2 := okd (sh i + 2) (by rw [is.2.1.2.2]; decide)
    have oA := okd (ins i) (by rw [ia.2.1.1]; decide)
    have oA2 := okd (ins i + 2) (by rw [ia.2.1.2.2]; decide)
    have ow : ∀ k : Nat, (k : Int) < G 18 i → Od (wy (ins i) k) S (wI S (na ins nt m j) p v) := fun k hk => otg _ (by
      rw [(ip k hk).2.2]
      intro q
      have e : 0 = ins m := congrArg Prod.fst q
      omega)
    have op : ∀ k : Nat, (k : Int) < G 18 i → Od (pl (ins i) k) S (wI S (na ins nt m j) p v) := fun k hk => okd _ (by rw [(ip k hk).1.2.1.2.2]; decide)
    have wf : ∀ k : Nat, (k : Int) < G 18 i → PW G (fo G i k) := fun k hk => gi.pw (gi.fv hi hk).2
    by_cases c : i = m
    · subst c
      obtain ⟨b1, b2, b3, b4, b5, b6⟩ := ia
      obtain ⟨s1, s2, s3, s4, s5, s6, s7, s8⟩ := is
      have w := gi.pw hi
      refine ⟨⟨a1, a2⟩, ⟨s1, s2, s3, s4, ⟨by rw [oS.2.2.1]; exact s5.1, by rw [oS.2.2.1, (pa i).1]; exact s5.2.1, by rw [oS.2.2.1, pc_congr (pa i) w.1]; exact s5.2.2⟩, by rw [oS.2.2.1, us]; exact s6, fun k hk => ?_, fun q hq => ?_⟩, ⟨b1, b2, b3, b4, ⟨by rw [oA.2.2.1, hG 18 i (by omega)]; exact b5.1, by rw [oA.2.2.1, hG 20 i (by omega)]; exact b5.2.1, by rw [oA.2.2.1, cj]; exact b5.2.2⟩, fun q hq => ?_⟩, tgs, fun k hk => ?_⟩
      · rw [oS1.2.2.1, s7 k hk, (pa i).1]
        by_cases c : (k : Int) < G 15 i
        · rw [if_pos c, if_pos c, ((pa i).2 k c).1]
        · rw [if_neg c, if_neg c]
      · rw [pc_congr (pa i) w.1] at hq
        rw [oS2.2.2.1, s8 q hq, ob_congr (pa i) w.1]
      · rw [h22o i q hq]
        by_cases j0 : j = 0
        · subst j0
          show hI (wI S (ins i + 1) p v) (ins i + 1) q = _
          rw [hI_wI]
          by_cases cq : q = p
          · rw [if_pos ⟨rfl, cq⟩, if_pos ⟨rfl, rfl, cq⟩]
          · rw [if_neg (by omega), if_neg (by omega)]; exact b6 q hq
        · have oo := otg (ins i + 1) (by rw [tgs.2]; intro z; exact j0 (congrArg Prod.snd z).symm)
          rw [oo.2.2.1, if_neg (by unfold jb; rw [if_neg j0]; omega)]
          exact b6 q hq
      · rw [hG 18 i (by omega)] at hk
        obtain ⟨⟨p1, p2, p3, p4, p5, p6, p7⟩, t1, t2⟩ := ip k hk
        have o3 := ow k hk
        have wk := wf k hk
        have pl5 := pc_le wk
        refine ⟨⟨p1, p2, by rw [efo]; exact p3, by rw [efo, pc_congr (pa _) wk.1]; exact p4, p5, fun q hq => ?_, ?_⟩, t1, t2⟩
        · rw [efo, pc_congr (pa _) wk.1] at hq
          rw [h22 i k q (by omega) (by omega)]
          by_cases jk : j = k + 1
          · subst jk
            show hI (wI S (nt (ins i) (k + 1 - 1)) p v) (nt (ins i) k) q = _
            rw [Nat.add_sub_cancel, hI_wI]
            have ejb : jb (k + 1) = k := by unfold jb; rw [if_neg (by omega)]; omega
            by_cases cq : q = p
            · rw [if_pos ⟨rfl, cq⟩, if_pos ⟨rfl, ejb.symm, cq⟩]
            · rw [if_neg (by omega), if_neg (by omega)]; exact p6 q hq
          · have oo := otg (nt (ins i) k) (by rw [t1]; intro z; exact jk (congrArg Prod.snd z).symm)
            rw [oo.2.2.1, if_neg (by unfold jb; split <;> omega)]
            exact p6 q hq
        · have e23 : g 23 (64 * i + k) = G 23 (64 * i + k) := hG 23 _ (by omega)
          refine ⟨fun z => ?_, fun z => ⟨?_, fun t ht => ?_⟩⟩
          · rw [e23] at z
            rw [o3.2.1, o3.2.2.1]; exact p7.1 z
          · rw [e23] at z ⊢
            rw [o3.2.1]; exact (p7.2 z).1
          · rw [e23] at z ht
            rw [o3.2.2.1, hG 24 _ (by omega)]; exact (p7.2 z).2 t ht
    · have ne := al1 i hi c
      have oA1 := otg (ins i + 1) (by rw [tgs.2]; intro z; exact ne (congrArg Prod.fst z))
      refine MoF.keep gi hi (C.mo hi) rfl (fun _ _ => rfl) rfl (fun _ _ => ⟨rfl, rfl, rfl⟩) (fun _ _ => rfl) (Nat.le_refl _) rfl (oS.sa 5) oS1 oS2 (oA.sa 4) oA1 oA2 (fun k hk => ⟨op k hk, otg _ (by rw [(ip k hk).2.1]; intro z; exact ne (congrArg Prod.fst z)), ow k hk⟩) ⟨pa i, ⟨hG _ _ (by omega), hG _ _ (by omega)⟩, fun q hq => by rw [h22o i q hq, if_neg (by omega)], fun k hk => ⟨hG _ _ (by omega), hG _ _ (by omega), fun t _ => hG _ _ (by omega), fun q hq => by rw [h22 i k q (by have := gi.ni hi; omega) hq, if_neg (by omega)], pa _⟩⟩ ?_ ?_
      · rw [oA.2.2.1, cj]; exact ia.2.2.2.2.1.2.2
      · rw [oS.2.2.1, us]; exact is.2.2.2.2.2.1
  · rw [e1] at hi hj
    rw [hG 21 i (by omega), hG 21 j (by omega)]
    exact C.2.2 i j hi hj
end
