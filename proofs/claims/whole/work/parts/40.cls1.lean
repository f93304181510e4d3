/-! THE CLASS: reading its cells -/
variable {sh ins : Nat → Nat} {pl nt wy : Nat → Nat → Nat} {tg : Nat → Nat × Nat}
def Stt (S : AS) : Prop := Fix S ∧ 39 ≤ hn S ∧ Rm S
/-- a call of the class that changes nothing -/
def CO (S : AS) (c : Option RS) (e : Nat) (v : Int) : Prop := ∃ S', c = some ((e, v, none), S') ∧ Qu S S'
/-- writes into the class's scratch -/
def Sc (S S' : AS) : Prop := (hn S' = hn S ∧ hu S' = hu S) ∧ hk S' = hk S ∧ hl S' = hl S ∧ (∀ a j, a < 2 ∨ 13 < a → hI S' a j = hI S a j) ∧ ∀ a j, a ≠ 3 → a ≠ 8 → a ≠ 10 → hR S' a j = hR S a j
theorem Sc.rfl' (S : AS) : Sc S S := ⟨⟨rfl, rfl⟩, rfl, rfl, fun _ _ _ => rfl, fun _ _ _ _ _ => rfl⟩
theorem Sc.tr {S T U : AS} (h : Sc S T) (g : Sc T U) : Sc S U := ⟨⟨g.1.1.trans h.1.1, g.1.2.trans h.1.2⟩, g.2.1.trans h.2.1, g.2.2.1.trans h.2.2.1, fun a j ha => (g.2.2.2.1 a j ha).trans (h.2.2.2.1 a j ha), fun a j h1 h2 h3 => (g.2.2.2.2 a j h1 h2 h3).trans (h.2.2.2.2 a j h1 h2 h3)⟩
theorem Sc.w1 (S : AS) {a : Nat} (k : Nat) (v : Int) (h1 : 2 ≤ a) (h2 : a ≤ 13) : Sc S (wI S a k v) := ⟨⟨rfl, rfl⟩, rfl, rfl, fun b j hb => by rw [hI_wI, if_neg (by omega)], fun _ _ _ _ _ => rfl⟩
theorem Sc.wr (S : AS) {a : Nat} (k : Nat) (v : Option Nat) (h1 : a = 3 ∨ a = 8 ∨ a = 10) : Sc S (wR S a k v) := ⟨⟨rfl, rfl⟩, rfl, rfl, fun _ _ _ => rfl, fun b j h2 h3 h4 => by rw [hR_wR, if_neg (by omega)]⟩
theorem Sc.fix {S T : AS} (h : Sc S T) (hf : Fix S) : Fix T := by
  obtain ⟨⟨h1, h2⟩, h3, h4, h5, h6⟩ := h
  refine ⟨fun a ha => by rw [h3, h4]; exact hf.1 a ha, fun r hr => ?_⟩
  have hne : r.1 ≠ 3 ∧ r.1 ≠ 8 ∧ r.1 ≠ 10 := by
    have : ∀ r ∈ rT, r.1 ≠ 3 ∧ r.1 ≠ 8 ∧ r.1 ≠ 10 := by decide
    exact this r hr
  rw [h6 _ _ hne.1 hne.2.1 hne.2.2]
  exact hf.2 r hr
theorem Sc.kp {S T : AS} (h : Sc S T) : Kp S T := by
  obtain ⟨⟨h1, h2⟩, h3, h4, h5, h6⟩ := h
  exact ⟨by omega, fun a ha _ => ⟨by rw [h3], by rw [h4], fun j => h5 a j (by omega), fun j => h6 a j (by omega) (by omega) (by omega)⟩, h5 0 1 (by omega), fun j => h6 1 j (by omega) (by omega) (by omega)⟩
theorem Sc.qu {S T : AS} (h : Sc S T) (hf : Fix S) : Qu S T := ⟨h.kp, ⟨fun a j h1 h2 => h.2.2.2.1 a j (by omega), h.fix hf⟩, ⟨by rw [h.1.1]; omega, by rw [h.1.2]; omega⟩⟩
theorem Sc.stt {S T : AS} (h : Sc S T) (hs : Stt S) : Stt T := ⟨h.fix hs.1, by rw [h.1.1]; exact hs.2.1, by unfold Rm; rw [h.1.1, h.1.2]; exact hs.2.2⟩
theorem CO.x {S T : AS} (h : Sc S T) (hs : Stt S) {e : Nat} : CO S (rX e T) e 0 := by
  have hT := h.stt hs
  refine ⟨wX T, rX_ok (by have := hT.2.2.1; omega) (by have := hT.2.2.2; omega), ?_⟩
  have q := Qu.x hT.1 hT.2.1
  refine ⟨h.kp.tr q.1, (h.qu hs.1).2.1.tr q.2.1, ?_⟩
  have := q.2.2
  unfold Bd at this ⊢
  rw [h.1.1, h.1.2] at this
  exact this
theorem CO.v {S T : AS} (h : Sc S T) (hs : Stt S) {v : Int} : CO S (some ((0, v, none), T)) 0 v := ⟨T, rfl, h.qu hs.1⟩
theorem rX_s {S : AS} (hs : Stt S) (k : Nat) : rX k S = some ((k, 0, none), wX S) := rX_ok (by have := hs.2.2.1; omega) (by have := hs.2.2.2; omega)
theorem cI_x {k : Int → AS → Option RS} {e : Nat} {v : Int} {r : Option Nat} {S : AS} : cI (some ((e + 1, v, r), S)) k = some ((e + 1, v, r), S) := rfl
theorem cR_x {k : Option Nat → AS → Option RS} {e : Nat} {v : Int} {r : Option Nat} {S : AS} : cR (some ((e + 1, v, r), S)) k = some ((e + 1, v, r), S) := rfl
theorem cV_x {k : AS → Option RS} {e : Nat} {v : Int} {r : Option Nat} {S : AS} : cV (some ((e + 1, v, r), S)) k = some ((e + 1, v, r), S) := rfl
theorem cI_X {k : Int → AS → Option RS} {e : Nat} {S : AS} : cI (rX (e + 1) S) k = rX (e + 1) S := by unfold rX; split <;> rfl
theorem cR_X {k : Option Nat → AS → Option RS} {e : Nat} {S : AS} : cR (rX (e + 1) S) k = rX (e + 1) S := by unfold rX; split <;> rfl
theorem cV_X {k : AS → Option RS} {e : Nat} {S : AS} : cV (rX (e + 1) S) k = rX (e + 1) S := by unfold rX; split <;> rfl
section
variable {G : Nat → Nat → Int} {S : AS}
theorem Cls.at (C : Cls sh ins pl nt wy tg G S) {i : Nat} (hi : (i : Int) < G 14 1) : ShF G S i (sh i) := (C.2.1 i hi).2.1
theorem Cls.ia (C : Cls sh ins pl nt wy tg G S) {i : Nat} (hi : (i : Int) < G 14 1) : InF G S i (ins i) := (C.2.1 i hi).2.2.1
theorem Cls.pa (C : Cls sh ins pl nt wy tg G S) {i k : Nat} (hi : (i : Int) < G 14 1) (hk : (k : Int) < G 18 i) : PlF G S sh i (ins i) k (pl (ins i) k) (nt (ins i) k) (wy (ins i) k) := ((C.2.1 i hi).2.2.2.2 k hk).1
theorem c_n (C : Cls sh ins pl nt wy tg G S) (h : Fix S) : gI S (some 0) 6 1 = some (G 14 1) := (fg_0 h 1).trans (congrArg some C.1)
theorem c_sh (C : Cls sh ins pl nt wy tg G S) (h : Fix S) (gi : GI G) {i : Nat} (hi : (i : Int) < G 14 1) : aR S (some 1) 11 i = some (some (sh i)) := by
  have := gi.lt hi
  rw [fa_1 h (by omega) (by omega), tn, (C.2.1 i hi).1.1]
theorem c_in (C : Cls sh ins pl nt wy tg G S) {i : Nat} (hi : (i : Int) < G 14 1) : gR S (some (sh i)) 5 6 = some (some (ins i)) := (gR_at (C.at hi).2.1.1).trans (congrArg some (C.2.1 i hi).1.2)
theorem c_s1 (C : Cls sh ins pl nt wy tg G S) {i : Nat} (hi : (i : Int) < G 14 1) : gR S (some (sh i)) 5 1 = some (some (sh i + 1)) := (gR_at (C.at hi).2.1.1).trans (congrArg some (C.at hi).2.2.2.1.1)
theorem c_s2 (C : Cls sh ins pl nt wy tg G S) {i : Nat} (hi : (i : Int) < G 14 1) : gR S (some (sh i)) 5 2 = some (some (sh i + 2)) := (gR_at (C.at hi).2.1.1).trans (congrArg some (C.at hi).2.2.2.1.2)
theorem c_i0 (C : Cls sh ins pl nt wy tg G S) {i : Nat} (hi : (i : Int) < G 14 1) : gI S (some (sh i)) 5 0 = some (i : Int) := (gI_at (C.at hi).2.1.1).trans (congrArg some (C.at hi).2.2.2.2.1.1)
theorem c_i3 (C : Cls sh ins pl nt wy tg G S) {i : Nat} (hi : (i : Int) < G 14 1) : gI S (some (sh i)) 5 3 = some (G 15 i) := (gI_at (C.at hi).2.1.1).trans (congrArg some (C.at hi).2.2.2.2.1.2.1)
theorem c_i4 (C : Cls sh ins pl nt wy tg G S) {i : Nat} (hi : (i : Int) < G 14 1) : gI S (some (sh i)) 5 4 = some (pc G i) := (gI_at (C.at hi).2.1.1).trans (congrArg some (C.at hi).2.2.2.2.1.2.2)
theorem c_i5 (C : Cls sh ins pl nt wy tg G S) {i : Nat} (hi : (i : Int) < G 14 1) [Decidable (used G i)] : gI S (some (sh i)) 5 5 = some (Bo (used G i)) := by
  obtain ⟨q1, q2⟩ := (C.at hi).2.2.2.2.2.1
  rw [gI_at (C.at hi).2.1.1]
  by_cases c : used G i
  · rw [Bo_t c, q2.mpr c]
  · rw [Bo_f c]
    rcases q1 with q | q
    · rw [q]
    · exact absurd (q2.mp q) c
theorem c_k5 (C : Cls sh ins pl nt wy tg G S) {i : Nat} (hi : (i : Int) < G 14 1) : isK S (some (sh i)) 5 = true := isK_at (C.at hi).2.1.1
theorem c_k1 (C : Cls sh ins pl nt wy tg G S) {i : Nat} (hi : (i : Int) < G 14 1) : isK S (some (ins i)) 1 = true := isK_at (C.ia hi).2.1.1
theorem c_a0 (C : Cls sh ins pl nt wy tg G S) {i : Nat} (hi : (i : Int) < G 14 1) : gR S (some (ins i)) 1 0 = some (some (ins i + 1)) := (gR_at (C.ia hi).2.1.1).trans (congrArg some (C.ia hi).2.2.2.1.1)
theorem c_a1 (C : Cls sh ins pl nt wy tg G S) {i : Nat} (hi : (i : Int) < G 14 1) : gR S (some (ins i)) 1 1 = some (some (ins i + 2)) := (gR_at (C.ia hi).2.1.1).trans (congrArg some (C.ia hi).2.2.2.1.2)
theorem c_a2 (C : Cls sh ins pl nt wy tg G S) {i : Nat} (hi : (i : Int) < G 14 1) : gI S (some (ins i)) 1 2 = some (G 18 i) := (gI_at (C.ia hi).2.1.1).trans (congrArg some (C.ia hi).2.2.2.2.1.1)
theorem c_a3 (C : Cls sh ins pl nt wy tg G S) {i : Nat} (hi : (i : Int) < G 14 1) : gI S (some (ins i)) 1 3 = some (G 20 i) := (gI_at (C.ia hi).2.1.1).trans (congrArg some (C.ia hi).2.2.2.2.1.2.1)
theorem c_a4 (C : Cls sh ins pl nt wy tg G S) {i : Nat} (hi : (i : Int) < G 14 1) : gI S (some (ins i)) 1 4 = some (cJ G i : Int) := (gI_at (C.ia hi).2.1.1).trans (congrArg some (C.ia hi).2.2.2.2.1.2.2)
theorem c_pl (C : Cls sh ins pl nt wy tg G S) (gi : GI G) {i k : Nat} (hi : (i : Int) < G 14 1) (hk : (k : Int) < G 18 i) : aR S (some (ins i + 2)) 10 k = some (some (pl (ins i) k)) := by
  have := gi.ni hi
  rw [aR_at (C.ia hi).2.1.2.2 (by omega) (by rw [(C.ia hi).2.2.1.2]; omega), tn, (C.pa hi hk).1]
theorem c_p0 (C : Cls sh ins pl nt wy tg G S) {i k : Nat} (hi : (i : Int) < G 14 1) (hk : (k : Int) < G 18 i) : gR S (some (pl (ins i) k)) 4 0 = some (some (sh (fo G i k))) := (gR_at (C.pa hi hk).2.1.2.2).trans (congrArg some (C.pa hi hk).2.2.1.1)
theorem c_p1 (C : Cls sh ins pl nt wy tg G S) {i k : Nat} (hi : (i : Int) < G 14 1) (hk : (k : Int) < G 18 i) : gR S (some (pl (ins i) k)) 4 1 = some (some (wy (ins i) k)) := (gR_at (C.pa hi hk).2.1.2.2).trans (congrArg some (C.pa hi hk).2.2.1.2.1)
theorem c_p2 (C : Cls sh ins pl nt wy tg G S) {i k : Nat} (hi : (i : Int) < G 14 1) (hk : (k : Int) < G 18 i) : gR S (some (pl (ins i) k)) 4 2 = some (some (nt (ins i) k)) := (gR_at (C.pa hi hk).2.1.2.2).trans (congrArg some (C.pa hi hk).2.2.1.2.2)
theorem c_ob (C : Cls sh ins pl nt wy tg G S) (gi : GI G) {i q : Nat} (hi : (i : Int) < G 14 1) (hq : (q : Int) < pc G i) : aI S (some (sh i + 2)) 9 q = some (ob G i q) := by
  have := pc_le (gi.pw hi)
  rw [aI_at (C.at hi).2.1.2.2 (by omega) (by rw [(C.at hi).2.2.1.2]; omega), tn, (C.at hi).2.2.2.2.2.2.2 q hq]
theorem c_wd (C : Cls sh ins pl nt wy tg G S) {i k : Nat} (hi : (i : Int) < G 14 1) (hk : k < 16) : aI S (some (sh i + 1)) 8 k = some (if (k : Int) < G 15 i then G 16 (16 * i + k) else 0) := by
  rw [aI_at (C.at hi).2.1.2.1 (by omega) (by rw [(C.at hi).2.2.1.1]; omega), tn, (C.at hi).2.2.2.2.2.2.1 k hk]
theorem c_wl (C : Cls sh ins pl nt wy tg G S) {i : Nat} (hi : (i : Int) < G 14 1) : ln S (some (sh i + 1)) 8 = some 16 := by
  rw [ln_at (C.at hi).2.1.2.1, (C.at hi).2.2.1.1]; rfl
/-- the row of nets of a place, and how long it is -/
def na (ins : Nat → Nat) (nt : Nat → Nat → Nat) (i j : Nat) : Nat := if j = 0 then ins i + 1 else nt (ins i) (j - 1)
def nl (G : Nat → Nat → Int) (i j : Nat) : Nat := if j = 0 then 128 else np G i j
theorem c_nl (C : Cls sh ins pl nt wy tg G S) (gi : GI G) {i j : Nat} (hi : (i : Int) < G 14 1) (hj : (j : Int) ≤ G 18 i) : ln S (some (na ins nt i j)) 8 = some (nl G i j : Int) := by
  unfold na nl
  by_cases h0 : j = 0
  · rw [if_pos h0, if_pos h0, ln_at (C.ia hi).2.1.2.1, (C.ia hi).2.2.1.1]
  · have p := (C.pa hi (k := j - 1) (by omega)).2.2.2.1
    rw [if_neg h0, if_neg h0, ln_at p.2.2.1, p.2.2.2, (np_le gi hi hj).2]
    unfold jm
    rw [if_neg h0]
theorem c_na (C : Cls sh ins pl nt wy tg G S) (gi : GI G) {i j q : Nat} (hi : (i : Int) < G 14 1) (hj : (j : Int) ≤ G 18 i) (hq : q < nl G i j) : aI S (some (na ins nt i j)) 8 q = some (qn G i j q) := by
  unfold na qn jb
  unfold nl at hq
  by_cases h0 : j = 0
  · rw [if_pos h0] at hq
    rw [if_pos h0, if_pos h0, aI_at (C.ia hi).2.1.2.1 (by omega) (by rw [(C.ia hi).2.2.1.1]; omega), tn, (C.ia hi).2.2.2.2.2 q hq]
  · rw [if_neg h0] at hq
    have p := (C.pa hi (k := j - 1) (by omega)).2.2.2
    have e := (np_le gi hi hj).2
    rw [show jm G i j = fo G i (j - 1) from if_neg h0] at e
    rw [if_neg h0, if_neg h0, aI_at p.1.2.2.1 (by omega) (by rw [p.1.2.2.2]; omega), tn, p.2.2.1 q (by omega)]
theorem c_no (C : Cls sh ins pl nt wy tg G S) (gi : GI G) {i j : Nat} (hi : (i : Int) < G 14 1) (hj : (j : Int) ≤ G 18 i) : f_X0_netsOf (some (ins i)) ((j : Int) - 1) S = some ((0, 0, some (na ins nt i j)), S) := by
  unfold f_X0_netsOf na
  by_cases h0 : j = 0
  · subst h0
    rw [if_pos (by omega), c_a0 C hi]
    rfl
  · rw [if_neg (by omega), if_neg h0, c_a1 C hi, Option.bind_some]
    have e := c_pl C gi hi (k := j - 1) (by omega)
    rw [show ((j - 1 : Nat) : Int) = (j : Int) - 1 by omega] at e
    rw [e, Option.bind_some, c_p2 C hi (by omega)]
    rfl
theorem qn_own (gi : GI G) {i p : Nat} (hi : (i : Int) < G 14 1) (h1 : pc G i ≤ p) (h2 : p < 128) : qn G i 0 p = -1 := ((gi.at hi).2.2.2.2.1 p h2).2.2 h1
theorem qn_lt (gi : GI G) {i j p : Nat} (hi : (i : Int) < G 14 1) (hj : j ≤ 64) (h2 : p < 128) : -1 ≤ qn G i j p ∧ qn G i j p < G 20 i := by
  unfold qn jb
  by_cases h0 : j = 0
  · rw [if_pos h0]
    have := (gi.at hi).2.2.2.2.1 p h2
    exact ⟨this.1, this.2.1⟩
  · rw [if_neg h0]
    have := (gi.at hi).2.2.2.2.2.1 (j - 1) p (by omega) h2
    exact ⟨this.1, this.2.1⟩
/-! what the calls begin with -/
theorem shellAt_t (C : Cls sh ins pl nt wy tg G S) (h : Fix S) (gi : GI G) {x : Int} (hx : 0 ≤ x ∧ x < G 14 1) : f_X5_shellAt (some 0) x S = some ((0, 0, some (sh x.toNat)), S) := by
  have e := c_sh C h gi (i := x.toNat) (by omega)
  rw [show ((x.toNat : Nat) : Int) = x by omega] at e
  unfold f_X5_shellAt f_X5_requireWithin
  rw [c_n C h, Option.bind_some, if_neg (by omega), if_pos hx.2, rV_s, cV_s, fr_0_0 h, Option.bind_some, e]
  rfl
theorem shellAt_f (C : Cls sh ins pl nt wy tg G S) (h : Fix S) {x : Int} (hx : ¬ (0 ≤ x ∧ x < G 14 1)) : f_X5_shellAt (some 0) x S = rX 1 S := by
  unfold f_X5_shellAt f_X5_requireWithin
  rw [c_n C h, Option.bind_some]
  by_cases c : x < 0
  · rw [if_pos c, cV_X]
  · rw [if_neg c, if_neg (by omega), cV_X]
theorem within_t {x n : Int} (hx : 0 ≤ x ∧ x < n) : f_X5_requireWithin x n S = some ((0, 0, none), S) := by
  unfold f_X5_requireWithin
  rw [if_neg (by omega), if_pos hx.2, rV_s]
theorem within_f {x n : Int} (hx : ¬ (0 ≤ x ∧ x < n)) : f_X5_requireWithin x n S = rX 1 S := by
  unfold f_X5_requireWithin
  by_cases c : x < 0
  · rw [if_pos c]
  · rw [if_neg c, if_neg (by omega)]
theorem reqNet_t (C : Cls sh ins pl nt wy tg G S) {i : Nat} (hi : (i : Int) < G 14 1) {x : Int} (hx : 0 ≤ x ∧ x < G 20 i) : f_X5_requireNet (some (sh i)) x S = some ((0, 0, none), S) := by
  unfold f_X5_requireNet
  rw [c_in C hi, Option.bind_some, c_a3 C hi, Option.bind_some, within_t hx, cV_s, rV_s]
theorem reqNet_f (C : Cls sh ins pl nt wy tg G S) {i : Nat} (hi : (i : Int) < G 14 1) {x : Int} (hx : ¬ (0 ≤ x ∧ x < G 20 i)) : f_X5_requireNet (some (sh i)) x S = rX 1 S := by
  unfold f_X5_requireNet
  rw [c_in C hi, Option.bind_some, c_a3 C hi, Option.bind_some, within_f hx, cV_X]
theorem placementAt_t (C : Cls sh ins pl nt wy tg G S) (gi : GI G) {i : Nat} (hi : (i : Int) < G 14 1) {x : Int} (hx : 0 ≤ x ∧ x < G 18 i) : f_X5_placementAt (some (sh i)) x S = some ((0, 0, some (pl (ins i) x.toNat)), S) := by
  have e := c_pl C gi hi (k := x.toNat) (by omega)
  rw [show ((x.toNat : Nat) : Int) = x by omega] at e
  unfold f_X5_placementAt
  rw [c_in C hi, Option.bind_some, c_a2 C hi, Option.bind_some, within_t hx, cV_s, c_in C hi, Option.bind_some, c_a1 C hi, Option.bind_some, e]
  rfl
theorem placementAt_f (C : Cls sh ins pl nt wy tg G S) {i : Nat} (hi : (i : Int) < G 14 1) {x : Int} (hx : ¬ (0 ≤ x ∧ x < G 18 i)) : f_X5_placementAt (some (sh i)) x S = rX 1 S := by
  unfold f_X5_placementAt
  rw [c_in C hi, Option.bind_some, c_a2 C hi, Option.bind_some, within_f hx, cV_X]
theorem netAt_21 (C : Cls sh ins pl nt wy tg G S) (gi : GI G) {i j : Nat} (hi : (i : Int) < G 14 1) (hj : (j : Int) ≤ G 18 i) {z : Int} (hz : 0 ≤ z ∧ z < pc G (jm G i j)) : f_X5_netAt_21 (some (sh i)) ((j : Int) - 1) z (pc G (jm G i j)) S = some ((0, qn G i j z.toNat, none), S) := by
  have l := np_le gi hi hj
  have e := c_na C gi hi hj (q := z.toNat) (by unfold nl; split <;> omega)
  rw [show ((z.toNat : Nat) : Int) = z by omega] at e
  unfold f_X5_netAt_21
  rw [within_t hz, cV_s, c_in C hi, Option.bind_some, gd_t (c_k1 C hi), c_no C gi hi hj, cR_s, e, Option.bind_some, rI_s]
theorem netAt_t (C : Cls sh ins pl nt wy tg G S) (gi : GI G) {i : Nat} (hi : (i : Int) < G 14 1) {y z : Int} (hp : isPn G i y z) : f_X5_netAt (some (sh i)) y z S = some ((0, qn G i (y + 1).toNat z.toNat, none), S) := by
  obtain ⟨hx, hy, hz⟩ := hp
  rw [tn] at hy hz
  have e := netAt_21 C gi hi (j := (y + 1).toNat) (by omega) hz
  rw [show (((y + 1).toNat : Nat) : Int) - 1 = y by omega] at e
  unfold f_X5_netAt
  by_cases h0 : y = -1
  · rw [if_pos h0, c_i4 C hi, Option.bind_some]
    subst h0
    exact e
  · rw [if_neg h0, placementAt_t C gi hi (by omega), cR_s, c_p2 C hi (by omega), Option.bind_some]
    have l := c_nl C gi hi (j := (y + 1).toNat) (by omega)
    have l2 := (np_le gi hi (j := (y + 1).toNat) (by omega)).2
    unfold na nl at l
    rw [if_neg (by omega), if_neg (by omega), show (y + 1).toNat - 1 = y.toNat by omega, l2] at l
    rw [l, Option.bind_some]
    exact e
theorem netAt_f (C : Cls sh ins pl nt wy tg G S) (gi : GI G) {i : Nat} (hi : (i : Int) < G 14 1) {y z : Int} (hp : ¬ isPn G i y z) : f_X5_netAt (some (sh i)) y z S = rX 1 S := by
  unfold f_X5_netAt
  by_cases h0 : y = -1
  · subst h0
    rw [if_pos rfl, c_i4 C hi, Option.bind_some]
    unfold f_X5_netAt_21
    rw [within_f, cV_X]
    intro q
    have ln := gi.ni hi
    refine hp ⟨⟨by omega, hi⟩, ?_, ?_⟩
    · rw [tn]; omega
    · rw [tn]; exact q
  · rw [if_neg h0]
    by_cases hy : 0 ≤ y ∧ y < G 18 i
    · rw [placementAt_t C gi hi hy, cR_s, c_p2 C hi (by omega), Option.bind_some]
      have l := c_nl C gi hi (j := (y + 1).toNat) (by omega)
      have l2 := (np_le gi hi (j := (y + 1).toNat) (by omega)).2
      unfold na nl at l
      rw [if_neg (by omega), if_neg (by omega), show (y + 1).toNat - 1 = y.toNat by omega, l2] at l
      rw [l, Option.bind_some]
      unfold f_X5_netAt_21
      rw [within_f, cV_X]
      intro q
      refine hp ⟨⟨by omega, hi⟩, ?_, ?_⟩
      · rw [tn]; omega
      · rw [tn]; exact q
    · rw [placementAt_f C hi hy, cR_X]
theorem x_netOf (C : Cls sh ins pl nt wy tg G S) (hs : Stt S) (gi : GI G) (x y z : Int) : (isPn G x y z → CO S (f_X5_netOf (some 0) x y z S) 0 (qn G x.toNat (y + 1).toNat z.toNat)) ∧ (¬ isPn G x y z → CO S (f_X5_netOf (some 0) x y z S) 1 0) := by
  have h := hs.1
  have k0 := fk_0 h
  constructor
  · intro hp
    have ex : ((x.toNat : Nat) : Int) = x := by have := hp.1; omega
    have hp2 : isPn G ((x.toNat : Nat) : Int) y z := by rw [ex]; exact hp
    unfold f_X5_netOf
    rw [gd_t k0, shellAt_t C h gi hp.1, cR_s, netAt_t C gi (by rw [ex]; exact hp.1.2) hp2, cI_s, rI_s]
    exact CO.v (Sc.rfl' S) hs
  · intro hp
    unfold f_X5_netOf
    rw [gd_t k0]
    by_cases hx : 0 ≤ x ∧ x < G 14 1
    · have ex : ((x.toNat : Nat) : Int) = x := by omega
      have hp2 : ¬ isPn G ((x.toNat : Nat) : Int) y z := by rw [ex]; exact hp
      rw [shellAt_t C h gi hx, cR_s, netAt_f C gi (by rw [ex]; exact hx.2) hp2, cI_X]
      exact CO.x (Sc.rfl' S) hs
    · rw [shellAt_f C h hx, cR_X]
      exact CO.x (Sc.rfl' S) hs
end
