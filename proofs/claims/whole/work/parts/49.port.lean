/-! port -/
variable {sh ins : Nat → Nat} {pl nt wy : Nat → Nat → Nat} {tg : Nat → Nat × Nat}
section
variable {G : Nat → Nat → Int} {S : AS}
theorem ptG_o {m : Nat} {w o : Int} {a j : Nat} (h : (a ≠ 16 ∨ j ≠ 16 * m + (G 15 m).toNat) ∧ (a ≠ 17 ∨ j ≠ 16 * m + (G 15 m).toNat) ∧ (a ≠ 15 ∨ j ≠ m)) : ptG G m w o a j = G a j := by
  unfold ptG
  rw [uq_ne h.2.2, uq_ne h.2.1, uq_ne h.1]
theorem pt_15 {m : Nat} {w o : Int} : ptG G m w o 15 m = G 15 m + 1 := uq_at _ _ _ _
theorem pt_16 {m : Nat} {w o : Int} : ptG G m w o 16 (16 * m + (G 15 m).toNat) = w := by
  unfold ptG
  rw [uq_ne (by omega), uq_ne (by omega), uq_at]
theorem pt_17 {m : Nat} {w o : Int} : ptG G m w o 17 (16 * m + (G 15 m).toNat) = o := by
  unfold ptG
  rw [uq_ne (by omega), uq_at]
theorem pt_pcs {m : Nat} {w o : Int} (h0 : 0 ≤ G 15 m) : ∀ k : Nat, (k : Int) ≤ G 15 m → pcs (ptG G m w o) m k = pcs G m k := by
  intro k
  induction k with
  | zero => intro _; rfl
  | succ k ih =>
    intro hk
    unfold pcs
    rw [ih (by omega), ptG_o (by omega)]
theorem pt_pc {m : Nat} {w o : Int} (h0 : 0 ≤ G 15 m) : pc (ptG G m w o) m = pc G m + w := by
  unfold pc
  rw [pt_15, show (G 15 m + 1).toNat = (G 15 m).toNat + 1 by omega]
  show pcs (ptG G m w o) m (G 15 m).toNat + ptG G m w o 16 (16 * m + (G 15 m).toNat) = _
  rw [pt_pcs h0 _ (by omega), pt_16]
theorem pt_ob {m : Nat} {w o : Int} (h0 : 0 ≤ G 15 m) (q : Int) : ob (ptG G m w o) m q = if q < pc G m then ob G m q else o := by
  unfold ob
  rw [pt_15, show (G 15 m + 1).toNat = (G 15 m).toNat + 1 by omega]
  show (if q < pcs (ptG G m w o) m (G 15 m).toNat then obk (ptG G m w o) m q (G 15 m).toNat else ptG G m w o 17 (16 * m + (G 15 m).toNat)) = _
  rw [pt_pcs h0 _ (by omega), pt_17]
  have : ∀ k : Nat, (k : Int) ≤ G 15 m → obk (ptG G m w o) m q k = obk G m q k := by
    intro k
    induction k with
    | zero => intro _; rfl
    | succ k ih =>
      intro hk
      unfold obk
      rw [pt_pcs h0 k (by omega), ih (by omega), ptG_o (by omega)]
  rw [this _ (by omega)]
  rfl
theorem pt_pa {m x : Nat} {w o : Int} (hx : x ≠ m) (h0 : 0 ≤ G 15 m ∧ G 15 m < 16) (h1 : G 15 x ≤ 16) : PA G (ptG G m w o) x := ⟨ptG_o (by omega), fun k hk => ⟨ptG_o (by omega), ptG_o (by omega)⟩⟩
theorem GI.port (gi : GI G) {m : Nat} {w o : Int} (hm : (m : Int) < G 14 1) (h16 : G 15 m ≠ 16) (hw : 1 ≤ w ∧ w ≤ 8) (ho : o = 0 ∨ o = 1) : GI (ptG G m w o) := by
  obtain ⟨h1, h2, ⟨rk, h3⟩, h4, h5⟩ := gi
  have gi : GI G := ⟨h1, h2, ⟨rk, h3⟩, h4, h5⟩
  have wm := gi.pw hm
  have wm1 := wm.1
  have wm2 := wm.2.1
  have hG : ∀ a j, a ≠ 15 → a ≠ 16 → a ≠ 17 → ptG G m w o a j = G a j := fun a j z1 z2 z3 => ptG_o (by omega)
  refine ⟨by rw [hG 14 1 (by omega) (by omega) (by omega)]; exact h1, fun i hi => ?_, ⟨rk, fun i k hi hk => ?_⟩, by rw [hG 14 9 (by omega) (by omega) (by omega)]; exact h4, fun j => ?_⟩
  · rw [hG 14 1 (by omega) (by omega) (by omega)] at hi
    by_cases c : i = m
    · subst c
      obtain ⟨q1, q2, q3, q4, q5, q6, q7, q8⟩ := h2 i hi
      refine ⟨⟨by rw [pt_15]; omega, by rw [pt_15]; omega, fun k hk => ?_⟩, by rw [hG 18 i (by omega) (by omega) (by omega)]; exact q2, by rw [hG 20 i (by omega) (by omega) (by omega)]; exact q3, fun k hk => ?_, fun q hq => ?_, fun k q hk hq => ?_, fun k hk => ?_, by rw [hG 21 i (by omega) (by omega) (by omega), hG 14 9 (by omega) (by omega) (by omega)]; exact q8⟩
      · rw [pt_15] at hk
        by_cases ck : k = (G 15 i).toNat
        · subst ck
          rw [pt_16, pt_17]
          exact ⟨hw.1, hw.2, ho⟩
        · rw [ptG_o (by omega), ptG_o (by omega)]
          exact wm.2.2 k (by omega)
      · rw [hG 18 i (by omega) (by omega) (by omega)] at hk
        rw [hG 19 _ (by omega) (by omega) (by omega), hG 14 1 (by omega) (by omega) (by omega)]; exact q4 k hk
      · rw [hG 22 _ (by omega) (by omega) (by omega), hG 20 i (by omega) (by omega) (by omega), pt_pc wm1]
        have := q5 q hq
        exact ⟨this.1, this.2.1, fun z => this.2.2 (by omega)⟩
      · rw [hG 22 _ (by omega) (by omega) (by omega), hG 20 i (by omega) (by omega) (by omega), hG 18 i (by omega) (by omega) (by omega)]; exact q6 k q hk hq
      · rw [hG 18 i (by omega) (by omega) (by omega)] at hk
        rw [hG 23 _ (by omega) (by omega) (by omega)]; exact q7 k hk
    · exact (h2 i hi).of ⟨pt_pa c (by omega) (h2 i hi).1.2.1, ⟨hG _ _ (by omega) (by omega) (by omega), hG _ _ (by omega) (by omega) (by omega)⟩, fun k _ => ⟨hG _ _ (by omega) (by omega) (by omega), hG _ _ (by omega) (by omega) (by omega)⟩, fun q _ => hG _ _ (by omega) (by omega) (by omega), by rw [hG 21 i (by omega) (by omega) (by omega), hG 14 9 (by omega) (by omega) (by omega)]; exact (h2 i hi).2.2.2.2.2.2.2, by rw [hG 14 1 (by omega) (by omega) (by omega)]; omega⟩
  · rw [hG 14 1 (by omega) (by omega) (by omega)] at hi
    rw [hG 18 _ (by omega) (by omega) (by omega)] at hk
    have : fo (ptG G m w o) i k = fo G i k := by unfold fo; rw [hG 19 _ (by omega) (by omega) (by omega)]
    rw [this]
    exact h3 i k hi hk
  · by_cases c : j = 16 * m + (G 15 m).toNat
    · rw [c, pt_17]; exact ho
    · rw [ptG_o (by omega)]; exact h5 j
theorem addPort_2 {s : Nat} {P p : Int} {w : Nat} {o : Int} (k1 : hk S s = 5) (r1 : hR S s 1 = some (s + 1)) (r2 : hR S s 2 = some (s + 2)) (k2 : hk S (s + 1) = 8) (k3 : hk S (s + 2) = 9) (l1 : hl S (s + 1) = 16) (l2 : hl S (s + 2) = 128) (i3 : hI S s 3 = P) (i4 : hI S s 4 = p) (hP : 0 ≤ P ∧ P < 16) (hp : 0 ≤ p ∧ p + w ≤ 128) (ho : o = 0 ∨ o = 1) : ∀ (d k fu : Nat), w = k + d → d < fu → f_X4_addPort_2 fu (some s) (w : Int) o k (stI S (fl (hI S) (s + 2) p.toNat k o)) = some ((0, P, none), wI (wI (wI (stI S (fl (hI S) (s + 2) p.toNat w o)) (s + 1) P.toNat w) s 4 (p + w)) s 3 (P + 1)) := by
  intro d
  induction d with
  | zero =>
    intro k fu hk hf
    obtain ⟨fu, rfl⟩ : ∃ z, fu = z + 1 := ⟨fu - 1, by omega⟩
    have ek : k = w := by omega
    subst ek
    have j3 : hI (stI S (fl (hI S) (s + 2) p.toNat k o)) s 3 = P := by rw [stI_hI]; unfold fl; rw [if_neg (by omega)]; exact i3
    have j4 : hI (wI (stI S (fl (hI S) (s + 2) p.toNat k o)) (s + 1) P.toNat k) s 4 = p := by rw [hI_wI, if_neg (by omega), stI_hI]; unfold fl; rw [if_neg (by omega)]; exact i4
    have j5 : hI (wI (wI (stI S (fl (hI S) (s + 2) p.toNat k o)) (s + 1) P.toNat k) s 4 (p + k)) s 3 = P := by rw [hI_wI, if_neg (by omega), hI_wI, if_neg (by omega)]; exact j3
    unfold f_X4_addPort_2
    rw [if_pos (by omega), gR_at (S := stI S (fl (hI S) (s + 2) p.toNat k o)) k1, Option.bind_some, show hR (stI S (fl (hI S) (s + 2) p.toNat k o)) s 1 = some (s + 1) from r1, gI_at (S := stI S (fl (hI S) (s + 2) p.toNat k o)) k1, Option.bind_some, j3, sI_at (S := stI S (fl (hI S) (s + 2) p.toNat k o)) k2 hP.1 (by show P < (hl S (s + 1) : Int); rw [l1]; omega), Option.bind_some]
    rw [gI_at (S := wI (stI S (fl (hI S) (s + 2) p.toNat k o)) (s + 1) P.toNat k) k1, Option.bind_some, j4, chk_ok (by omega) (by omega), Option.bind_some, pI_at (S := wI (stI S (fl (hI S) (s + 2) p.toNat k o)) (s + 1) P.toNat k) k1, Option.bind_some]
    rw [gI_at (S := wI (wI (stI S (fl (hI S) (s + 2) p.toNat k o)) (s + 1) P.toNat k) s 4 (p + k)) k1, Option.bind_some, j5, chk_ok (by omega) (by omega), Option.bind_some, pI_at (S := wI (wI (stI S (fl (hI S) (s + 2) p.toNat k o)) (s + 1) P.toNat k) s 4 (p + k)) k1, Option.bind_some]
    rw [gI_at (S := wI (wI (wI (stI S (fl (hI S) (s + 2) p.toNat k o)) (s + 1) P.toNat k) s 4 (p + k)) s 3 (P + 1)) k1, Option.bind_some, hI_w0, chk_ok (by omega) (by omega), Option.bind_some, rI_s, Int.add_sub_cancel]
  | succ d ih =>
    intro k fu hk hf
    obtain ⟨fu, rfl⟩ : ∃ z, fu = z + 1 := ⟨fu - 1, by omega⟩
    have j4 : hI (stI S (fl (hI S) (s + 2) p.toNat k o)) s 4 = p := by rw [stI_hI]; unfold fl; rw [if_neg (by omega)]; exact i4
    have e := fl_s (hI S) (s + 2) p.toNat k o
    unfold f_X4_addPort_2
    rw [if_neg (by omega), gR_at (S := stI S (fl (hI S) (s + 2) p.toNat k o)) k1, Option.bind_some, show hR (stI S (fl (hI S) (s + 2) p.toNat k o)) s 2 = some (s + 2) from r2, gI_at (S := stI S (fl (hI S) (s + 2) p.toNat k o)) k1, Option.bind_some, j4, chk_ok (by omega) (by omega), Option.bind_some, sZ_at (S := stI S (fl (hI S) (s + 2) p.toNat k o)) k3 (by omega) (by show p + (k : Int) < (hl S (s + 2) : Int); rw [l2]; omega) ho, Option.bind_some, chk_ok (by omega) (by omega), Option.bind_some, show (p + (k : Int)).toNat = p.toNat + k by omega, wI_set, stI_hI, stI_set, e]
    exact ih (k + 1) fu (by omega) (by omega)
theorem x_port (C : Cls sh ins pl nt wy tg G S) (hs : Stt S) (gi : GI G) (x y z : Int) (hz : z = 0 ∨ z = 1) : (¬ (0 ≤ x ∧ x < G 14 1) → CO S (f_X5_port (some 0) x y z S) 1 0) ∧ ((0 ≤ x ∧ x < G 14 1) → (G 15 x.toNat = 16 ∨ used G x.toNat) → CO S (f_X5_port (some 0) x y z S) 2 0) ∧ ((0 ≤ x ∧ x < G 14 1) → ¬ (G 15 x.toNat = 16 ∨ used G x.toNat) → ¬ (1 ≤ y ∧ y ≤ 8) → CO S (f_X5_port (some 0) x y z S) 3 0) ∧ ((0 ≤ x ∧ x < G 14 1) → ¬ (G 15 x.toNat = 16 ∨ used G x.toNat) → (1 ≤ y ∧ y ≤ 8) → CX S (f_X5_port (some 0) x y z S) 0 (G 15 x.toNat) (ptG G x.toNat y z)) := by
  have h := hs.1
  have k0 := fk_0 h
  have hd := Classical.propDecidable (used G x.toNat)
  refine ⟨fun hx => ?_, fun hx hu => ?_, fun hx hu hy => ?_, fun hx hv9 hy => ?_⟩
  · unfold f_X5_port
    rw [gd_t k0, shellAt_f C h hx, cR_X]
    exact CO.x (Sc.rfl' S) hs
  · unfold f_X5_port
    rw [gd_t k0, shellAt_t C h gi hx, cR_s, c_i3 C (by omega), Option.bind_some]
    by_cases c : G 15 x.toNat = 16
    · rw [if_pos c]
      exact CO.x (Sc.rfl' S) hs
    · rw [if_neg c, c_i5 C (by omega), Option.bind_some, Bo_t (hu.resolve_left c), if_neg (by decide)]
      exact CO.x (Sc.rfl' S) hs
  · unfold f_X5_port
    rw [gd_t k0, shellAt_t C h gi hx, cR_s, c_i3 C (by omega), Option.bind_some, if_neg (fun q => hu (Or.inl q)), c_i5 C (by omega), Option.bind_some, Bo_f (fun q => hu (Or.inr q)), if_pos rfl]
    by_cases c : y < 1
    · rw [if_pos c]
      exact CO.x (Sc.rfl' S) hs
    · rw [if_neg c, if_neg (by omega)]
      exact CO.x (Sc.rfl' S) hs
  · obtain ⟨m, rfl⟩ : ∃ m : Nat, x = m := ⟨x.toNat, by omega⟩
    obtain ⟨w, rfl⟩ : ∃ w : Nat, y = w := ⟨y.toNat, by omega⟩
    rw [tn] at hv9 hd ⊢
    have hm : (m : Int) < G 14 1 := hx.2
    have wm := gi.pw hm
    have wm1 := wm.1
    have wm2 := wm.2.1
    have n16 : G 15 m ≠ 16 := fun q => hv9 (Or.inl q)
    have pp := pcs_le wm (G 15 m).toNat (by omega)
    have pe : pc G m = pcs G m (G 15 m).toNat := rfl
    obtain ⟨⟨a1, a2⟩, s, a, tgs, pls⟩ := C.mo hm
    obtain ⟨s1, s2, s3, s4, s5, s6, s7, s8⟩ := s
    obtain ⟨T, hT⟩ : ∃ T, T = wI (wI (wI (stI S (fl (hI S) (sh m + 2) (pc G m).toNat w z)) (sh m + 1) (G 15 m).toNat w) (sh m) 4 (pc G m + w)) (sh m) 3 (G 15 m + 1) := ⟨_, rfl⟩
    have eA := addPort_2 (S := S) (s := sh m) (w := w) (o := z) s2.1 s4.1 s4.2 s2.2.1 s2.2.2 s3.1 s3.2 s5.2.1 s5.2.2 (by omega) (by omega) hz w 0 FU (by omega) (FU_gt (by omega))
    rw [fl_0, stI_self, ← hT] at eA
    have od : ∀ x, x ≠ sh m → x ≠ sh m + 1 → x ≠ sh m + 2 → Od x S T := fun x h1 h2 h3 => by
      rw [hT]
      exact (((Od.f h3).tr (Od.w h2)).tr (Od.w h1)).tr (Od.w h1)
    have hkT : hk T = hk S := by rw [hT]; rfl
    have hlT : hl T = hl S := by rw [hT]; rfl
    have hRT : hR T = hR S := by rw [hT]; rfl
    have hnT : hn T = hn S := by rw [hT]; rfl
    have huT : hu T = hu S := by rw [hT]; rfl
    have hG : ∀ a j, a ≠ 15 → a ≠ 16 → a ≠ 17 → ptG G m w z a j = G a j := fun a j z1 z2 z3 => ptG_o (by omega)
    have e1 := hG 14 1 (by omega) (by omega) (by omega)
    have efo : ∀ i k, fo (ptG G m w z) i k = fo G i k := fun i k => by unfold fo; rw [hG 19 _ (by omega) (by omega) (by omega)]
    have us : ∀ i, used (ptG G m w z) i ↔ used G i := fun i => used_congr e1 (fun j k _ _ => efo j k) (fun j _ => hG 18 _ (by omega) (by omega) (by omega)) i
    have cj : ∀ i, cJ (ptG G m w z) i = cJ G i := fun i => by unfold cJ; rw [e1]; exact cnt_congr _ (fun k _ => by rw [hG 21 k (by omega) (by omega) (by omega), hG 21 i (by omega) (by omega) (by omega)])
    have pa : ∀ x : Nat, (x : Int) < G 14 1 → x ≠ m → PA G (ptG G m w z) x := fun x hx hne => pt_pa hne (by omega) (gi.pw hx).2.1
    have nu : ∀ i k : Nat, (i : Int) < G 14 1 → (k : Int) < G 18 i → fo G i k ≠ m := fun i k hi hk q => hv9 (Or.inr ⟨i, k, hi, hk, q⟩)
    have paf : ∀ i k : Nat, (i : Int) < G 14 1 → (k : Int) < G 18 i → PA G (ptG G m w z) (fo G i k) := fun i k hi hk => pa _ (gi.fv hi hk).2 (nu i k hi hk)
    refine ⟨T, sh, ins, pl, nt, wy, tg, ?_, ⟨?_, fun i hi => ?_, fun i j hi hj => ?_⟩, ⟨fun b j h1 h2 => (od b (by omega) (by omega) (by omega)).2.2.1 j, ?_⟩, ⟨by rw [hnT]; omega, by rw [huT]; omega⟩, by rw [hnT]; omega⟩
    · unfold f_X5_port
      rw [gd_t k0, shellAt_t C h gi hx, cR_s, tn, c_i3 C hm, Option.bind_some, if_neg n16, c_i5 C hm, Option.bind_some, Bo_f (fun q => hv9 (Or.inr q)), if_pos rfl, if_neg (by omega), if_pos hy.2, c_k5 C hm, gd_1]
      unfold f_X4_addPort
      rw [show f_X4_addPort_2 FU (some (sh m)) (w : Int) z 0 S = _ from eA, cI_s, rI_s]
    · rw [e1, (od 0 (by omega) (by omega) (by omega)).2.2.1]; exact C.1
    · rw [e1] at hi
      obtain ⟨⟨b1, b2⟩, is, ia, it, ip⟩ := C.mo hi
      have kA : ins i ≠ sh m := fun q => by
        have := ia.2.1.1
        rw [q, s2.1] at this
        exact absurd this (by decide)
      have t1 : ∀ x, tg x ≠ (sh m, 0) → hk S x ≠ 5 → hk S x ≠ 9 → Od x S T := fun x h1 h2 h3 => od x (fun q => h2 (by rw [q]; exact s2.1)) (fun q => h1 (by rw [q]; exact tgs.1)) (fun q => h3 (by rw [q]; exact s2.2.2))
      have okd : ∀ x, hk S x ≠ 5 → hk S x ≠ 8 → hk S x ≠ 9 → Od x S T := fun x h1 h2 h3 => od x (fun q => h1 (by rw [q]; exact s2.1)) (fun q => h2 (by rw [q]; exact s2.2.1)) (fun q => h3 (by rw [q]; exact s2.2.2))
      have oA := okd (ins i) (by rw [ia.2.1.1]; decide) (by rw [ia.2.1.1]; decide) (by rw [ia.2.1.1]; decide)
      have oA1 := t1 (ins i + 1) (by rw [it.2]; intro q; exact kA (congrArg Prod.fst q)) (by rw [ia.2.1.2.1]; decide) (by rw [ia.2.1.2.1]; decide)
      have oA2 := okd (ins i + 2) (by rw [ia.2.1.2.2]; decide) (by rw [ia.2.1.2.2]; decide) (by rw [ia.2.1.2.2]; decide)
      have oP : ∀ k : Nat, (k : Int) < G 18 i → Od (pl (ins i) k) S T ∧ Od (nt (ins i) k) S T ∧ Od (wy (ins i) k) S T := fun k hk => by
        obtain ⟨⟨p1, p2, p3, p4, p5, p6, p7⟩, q1, q2⟩ := ip k hk
        refine ⟨okd _ (by rw [p2.2.2]; decide) (by rw [p2.2.2]; decide) (by rw [p2.2.2]; decide), t1 _ (by rw [q1]; intro q; exact absurd (congrArg Prod.snd q) (by simp)) (by rw [p4.2.2.1]; decide) (by rw [p4.2.2.1]; decide), t1 _ (by rw [q2]; intro q; have : 0 = sh m := congrArg Prod.fst q; omega) (by rw [p5.2.2]; decide) (by rw [p5.2.2]; decide)⟩
      by_cases c : i = m
      · subst c
        obtain ⟨c1, c2, c3, c4, c5, c6⟩ := ia
        have iT : ∀ j, hI T (sh i) j = if j = 3 then G 15 i + 1 else if j = 4 then pc G i + w else hI S (sh i) j := fun j => by
          rw [hT, hI_wI, hI_wI, hI_wI, stI_hI]
          unfold fl
          by_cases j3 : j = 3
          · rw [if_pos ⟨rfl, j3⟩, if_pos j3]
          · rw [if_neg (by omega), if_neg j3]
            by_cases j4 : j = 4
            · rw [if_pos ⟨rfl, j4⟩, if_pos j4]
            · rw [if_neg (by omega), if_neg (by omega), if_neg (by omega), if_neg j4]
        refine ⟨⟨by rw [hRT]; exact b1, by rw [hRT]; exact b2⟩, ⟨by rw [hnT]; exact s1, by rw [hkT]; exact s2, by rw [hlT]; exact s3, by rw [hRT]; exact s4, ⟨by rw [iT, if_neg (by omega), if_neg (by omega)]; exact s5.1, by rw [iT, if_pos rfl, pt_15], by rw [iT, if_neg (by omega), if_pos rfl, pt_pc wm1]⟩, by rw [iT, if_neg (by omega), if_neg (by omega), us]; exact s6, fun k hk => ?_, fun q hq => ?_⟩, ⟨by rw [hnT]; exact c1, by rw [hkT]; exact c2, by rw [hlT]; exact c3, by rw [hRT]; exact c4, ⟨by rw [oA.2.2.1, hG 18 i (by omega) (by omega) (by omega)]; exact c5.1, by rw [oA.2.2.1, hG 20 i (by omega) (by omega) (by omega)]; exact c5.2.1, by rw [oA.2.2.1, cj]; exact c5.2.2⟩, fun q hq => by rw [oA1.2.2.1, hG 22 _ (by omega) (by omega) (by omega)]; exact c6 q hq⟩, it, fun k hk => ?_⟩
        · rw [pt_15, hT, hI_wI, if_neg (by omega), hI_wI, if_neg (by omega), hI_wI]
          by_cases ck : k = (G 15 i).toNat
          · rw [if_pos ⟨rfl, ck⟩, if_pos (by omega), ck, pt_16]
          · rw [if_neg (by omega), stI_hI]
            unfold fl
            rw [if_neg (by omega), s7 k hk]
            by_cases cl : (k : Int) < G 15 i
            · rw [if_pos cl, if_pos (by omega), ptG_o (by omega)]
            · rw [if_neg cl, if_neg (by omega)]
        · rw [pt_pc wm1] at hq
          rw [pt_ob wm1, hT, hI_wI, if_neg (by omega), hI_wI, if_neg (by omega), hI_wI, if_neg (by omega), stI_hI]
          unfold fl
          by_cases cl : (q : Int) < pc G i
          · rw [if_neg (by omega), if_pos cl]; exact s8 q cl
          · rw [if_pos (by omega), if_neg cl]
        · rw [hG 18 i (by omega) (by omega) (by omega)] at hk
          obtain ⟨⟨p1, p2, p3, p4, p5, p6, p7⟩, q1, q2⟩ := ip k hk
          obtain ⟨o1, o2, o3⟩ := oP k hk
          have lf := (gi.fv hi hk).2
          have wf := gi.pw lf
          have pk := paf i k hi hk
          refine ⟨⟨by rw [hRT]; exact p1, by rw [hnT, hkT]; exact p2, by rw [hRT, efo]; exact p3, by rw [hnT, hkT, hlT, efo, pc_congr pk wf.1]; exact p4, by rw [hnT, hkT]; exact p5, fun q hq => ?_, ?_⟩, q1, q2⟩
          · rw [efo, pc_congr pk wf.1] at hq
            rw [o2.2.2.1, hG 22 _ (by omega) (by omega) (by omega)]; exact p6 q hq
          · have e23 : ptG G i w z 23 (64 * i + k) = G 23 (64 * i + k) := hG 23 _ (by omega) (by omega) (by omega)
            refine ⟨fun z => ?_, fun z => ⟨?_, fun t ht => ?_⟩⟩
            · rw [e23] at z
              rw [o3.2.1, o3.2.2.1]; exact p7.1 z
            · rw [e23] at z ⊢
              rw [o3.2.1]; exact (p7.2 z).1
            · rw [e23] at z ht
              rw [o3.2.2.1, hG 24 _ (by omega) (by omega) (by omega)]; exact (p7.2 z).2 t ht
      · have nsh : sh i ≠ sh m := fun q => c (C.inj hi hm q)
        have kS1 := is.2.1
        have oS := od (sh i) nsh (fun q => by rw [q, s2.2.1] at kS1; exact absurd kS1.1 (by decide)) (fun q => by rw [q, s2.2.2] at kS1; exact absurd kS1.1 (by decide))
        have oS1 := od (sh i + 1) (fun q => by rw [q, s2.1] at kS1; exact absurd kS1.2.1 (by decide)) (by omega) (fun q => by rw [q, s2.2.2] at kS1; exact absurd kS1.2.1 (by decide))
        have oS2 := od (sh i + 2) (fun q => by rw [q, s2.1] at kS1; exact absurd kS1.2.2 (by decide)) (fun q => by rw [q, s2.2.1] at kS1; exact absurd kS1.2.2 (by decide)) (by omega)
        refine MoF.keep gi hi (C.mo hi) rfl (fun _ _ => rfl) rfl (fun _ _ => ⟨rfl, rfl, rfl⟩) (fun _ _ => rfl) (by rw [hnT]; omega) (by rw [hRT]) (oS.sa 5) oS1 oS2 (oA.sa 4) oA1 oA2 oP ⟨pa i hi c, ⟨hG _ _ (by omega) (by omega) (by omega), hG _ _ (by omega) (by omega) (by omega)⟩, fun q _ => hG _ _ (by omega) (by omega) (by omega), fun k hk => ⟨hG _ _ (by omega) (by omega) (by omega), hG _ _ (by omega) (by omega) (by omega), fun t _ => hG _ _ (by omega) (by omega) (by omega), fun q _ => hG _ _ (by omega) (by omega) (by omega), paf i k hi hk⟩⟩ ?_ ?_
        · rw [oA.2.2.1, cj]; exact ia.2.2.2.2.1.2.2
        · rw [oS.2.2.1, us]; exact is.2.2.2.2.2.1
    · rw [e1] at hi hj
      rw [hG 21 i (by omega) (by omega) (by omega), hG 21 j (by omega) (by omega) (by omega)]
      exact C.2.2 i j hi hj
    · refine ⟨fun a ha => by rw [hkT, hlT]; exact h.1 a ha, fun r hr => by rw [hRT]; exact h.2 r hr⟩
end
