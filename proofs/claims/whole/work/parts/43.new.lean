/-! new cells -/
def Od (x : Nat) (S T : AS) : Prop := hk T x = hk S x ∧ hl T x = hl S x ∧ (∀ j, hI T x j = hI S x j) ∧ ∀ j, hR T x j = hR S x j
theorem Od.rfl' (x : Nat) (S : AS) : Od x S S := ⟨rfl, rfl, fun _ => rfl, fun _ => rfl⟩
theorem Od.tr {x : Nat} {S T U : AS} (h : Od x S T) (g : Od x T U) : Od x S U := ⟨g.1.trans h.1, g.2.1.trans h.2.1, fun j => (g.2.2.1 j).trans (h.2.2.1 j), fun j => (g.2.2.2 j).trans (h.2.2.2 j)⟩
theorem Od.n {x : Nat} {S : AS} {kd len sl : Nat} (h : x ≠ hn S) : Od x S (wN S kd len sl) := ⟨by rw [hk_wN, if_neg h], by rw [hl_wN, if_neg h], fun j => by rw [hI_wN, if_neg h], fun j => by rw [hR_wN, if_neg h]⟩
theorem Od.w {x : Nat} {S : AS} {a k : Nat} {v : Int} (h : x ≠ a) : Od x S (wI S a k v) := ⟨rfl, rfl, fun j => by rw [hI_wI, if_neg (by omega)], fun _ => rfl⟩
theorem Od.r {x : Nat} {S : AS} {a k : Nat} {v : Option Nat} (h : x ≠ a) : Od x S (wR S a k v) := ⟨rfl, rfl, fun _ => rfl, fun j => by rw [hR_wR, if_neg (by omega)]⟩
theorem Od.f {x : Nat} {S : AS} {a lo n : Nat} {v : Int} (h : x ≠ a) : Od x S (stI S (fl (hI S) a lo n v)) := ⟨rfl, rfl, fun j => if_neg (by omega), fun _ => rfl⟩
theorem Od.c {x : Nat} {S : AS} {a d sp dp n : Nat} (h : x ≠ d) : Od x S (wC S a d sp dp n) := ⟨rfl, rfl, fun j => if_neg (by omega), fun _ => rfl⟩
theorem Od.k {x : Nat} {S : AS} {a : Nat} (h : x ≠ hn S) : Od x S (wK S a) := ⟨if_neg h, if_neg h, fun j => if_neg h, fun j => if_neg h⟩
/-- n new cells that take u slots; what was there stays -/
def Nw (n u : Nat) (S T : AS) : Prop := hn T = hn S + n ∧ hu T = hu S + u ∧ ∀ x, x < hn S → Od x S T
theorem Nw.tr {n u m v : Nat} {S T U : AS} (h : Nw n u S T) (g : Nw m v T U) : Nw (n + m) (u + v) S U := ⟨by rw [g.1, h.1]; omega, by rw [g.2.1, h.2.1]; omega, fun x hx => (h.2.2 x hx).tr (g.2.2 x (by rw [h.1]; omega))⟩
theorem Nw.fix {n u : Nat} {S T : AS} (h : Nw n u S T) (hf : Fix S) (h39 : 39 ≤ hn S) : Fix T := ⟨fun a ha => by obtain ⟨p1, p2, -, -⟩ := h.2.2 a (by omega); rw [p1, p2]; exact hf.1 a ha, fun r hr => by
  have : ∀ r ∈ rT, r.1 < 39 := by decide
  rw [(h.2.2 r.1 (by have := this r hr; omega)).2.2.2]
  exact hf.2 r hr⟩
theorem Nw.kp {n u : Nat} {S T : AS} (h : Nw n u S T) (h39 : 39 ≤ hn S) : Kp S T := ⟨by rw [h.1]; omega, fun a _ ha => h.2.2 a ha, (h.2.2 0 (by omega)).2.2.1 1, (h.2.2 1 (by omega)).2.2.2⟩
theorem nO_ok {S : AS} {kd : Nat} (h1 : hn S < CM) (h2 : hu S + NC (kd - 1) ≤ UM) : nO S kd = some (wN S kd 0 (NC (kd - 1))) := if_pos ⟨h1, h2⟩
theorem nA_ok {S : AS} {kd : Nat} {n : Int} (h0 : 0 ≤ n ∧ n ≤ 4000000) (h1 : hn S < CM) (h2 : hu S + n.toNat ≤ UM) : nA S kd n = some (wN S kd n.toNat n.toNat) := if_pos ⟨h0.1, h0.2, h1, h2⟩
/-- a new Inside at a -/
def In0 (T : AS) (a : Nat) : Prop := (hk T a = 1 ∧ hk T (a + 1) = 8 ∧ hk T (a + 2) = 10) ∧ (hl T (a + 1) = 128 ∧ hl T (a + 2) = 64) ∧ (hR T a 0 = some (a + 1) ∧ hR T a 1 = some (a + 2)) ∧ (hI T a 2 = 0 ∧ hI T a 3 = 0 ∧ hI T a 4 = 1) ∧ ∀ q, q < 128 → hI T (a + 1) q = -1
theorem newInside {S : AS} (h1 : hn S + 3 ≤ CM) (h2 : hu S + 197 ≤ UM) : ∃ T, (∀ k : AS → Option RS, (nO S 1).bind (fun S1 => cN (f_X0_init (some (hn S)) S1) k) = k T) ∧ Nw 3 197 S T ∧ In0 T (hn S) := by
  obtain ⟨a, ha⟩ : ∃ a, hn S = a := ⟨_, rfl⟩
  rw [ha]
  have n1 : hn (wN S 1 0 5) = a + 1 := by rw [hn_wN, ha]
  have u1 : hu (wN S 1 0 5) = hu S + 5 := rfl
  have e : ∀ k : AS → Option RS, (nO S 1).bind (fun S1 => cN (f_X0_init (some a) S1) k) = k (stI (wI (wI (wI (wR (wN (wR (wN (wN S 1 0 5) 8 128 128) a 0 (some (a + 1))) 10 64 64) a 1 (some (a + 2))) a 2 0) a 3 0) a 4 1) (fl (hI (wI (wI (wI (wR (wN (wR (wN (wN S 1 0 5) 8 128 128) a 0 (some (a + 1))) 10 64 64) a 1 (some (a + 2))) a 2 0) a 3 0) a 4 1)) (a + 1) 0 128 (-1))) := by
    intro k
    rw [nO_ok (by omega) (by show hu S + 5 ≤ UM; omega), Option.bind_some]
    unfold f_X0_init
    show cN (gd true _) k = _
    rw [gd_1, show wN S 1 0 (NC (1 - 1)) = wN S 1 0 5 from rfl, nA_ok (by omega) (by rw [n1]; omega) (by rw [u1]; show hu S + 5 + 128 ≤ UM; omega), Option.bind_some, n1]
    have ka : ∀ X, hk X a = hk X a := fun _ => rfl
    rw [pR_at (by simp only [hk_wI, hk_wR, hk_wN, hl_wI, hl_wR, hl_wN, hn_wI, hn_wR, hn_wN, hu_wI, hu_wR, hu_wN, hI_wI, hI_wR, hI_wN, hR_wI, hR_wR, hR_wN, n1]; (repeat (first | rw [if_pos (by first | omega | exact trivial | exact ⟨trivial, trivial⟩)] | rw [if_neg (by first | omega | exact not_false)]))), Option.bind_some]
    have n3 : hn (wR (wN (wN S 1 0 5) 8 (128 : Int).toNat (128 : Int).toNat) a 0 (some (a + 1))) = a + 2 := by rw [hn_wR, hn_wN, n1]
    rw [nA_ok (by omega) (by rw [n3]; omega) (by show hu S + 5 + 128 + 64 ≤ UM; omega), Option.bind_some, n3]
    rw [pR_at (by simp only [hk_wI, hk_wR, hk_wN, hl_wI, hl_wR, hl_wN, hn_wI, hn_wR, hn_wN, hu_wI, hu_wR, hu_wN, hI_wI, hI_wR, hI_wN, hR_wI, hR_wR, hR_wN, n1]; (repeat (first | rw [if_pos (by first | omega | exact trivial | exact ⟨trivial, trivial⟩)] | rw [if_neg (by first | omega | exact not_false)]))), Option.bind_some, pI_at (by simp only [hk_wI, hk_wR, hk_wN, hl_wI, hl_wR, hl_wN, hn_wI, hn_wR, hn_wN, hu_wI, hu_wR, hu_wN, hI_wI, hI_wR, hI_wN, hR_wI, hR_wR, hR_wN, n1]; (repeat (first | rw [if_pos (by first | omega | exact trivial | exact ⟨trivial, trivial⟩)] | rw [if_neg (by first | omega | exact not_false)]))), Option.bind_some, pI_at (by simp only [hk_wI, hk_wR, hk_wN, hl_wI, hl_wR, hl_wN, hn_wI, hn_wR, hn_wN, hu_wI, hu_wR, hu_wN, hI_wI, hI_wR, hI_wN, hR_wI, hR_wR, hR_wN, n1]; (repeat (first | rw [if_pos (by first | omega | exact trivial | exact ⟨trivial, trivial⟩)] | rw [if_neg (by first | omega | exact not_false)]))), Option.bind_some, pI_at (by simp only [hk_wI, hk_wR, hk_wN, hl_wI, hl_wR, hl_wN, hn_wI, hn_wR, hn_wN, hu_wI, hu_wR, hu_wN, hI_wI, hI_wR, hI_wN, hR_wI, hR_wR, hR_wN, n1]; (repeat (first | rw [if_pos (by first | omega | exact trivial | exact ⟨trivial, trivial⟩)] | rw [if_neg (by first | omega | exact not_false)]))), Option.bind_some, gR_at (by simp only [hk_wI, hk_wR, hk_wN, hl_wI, hl_wR, hl_wN, hn_wI, hn_wR, hn_wN, hu_wI, hu_wR, hu_wN, hI_wI, hI_wR, hI_wN, hR_wI, hR_wR, hR_wN, n1]; (repeat (first | rw [if_pos (by first | omega | exact trivial | exact ⟨trivial, trivial⟩)] | rw [if_neg (by first | omega | exact not_false)]))), Option.bind_some]
    have r0 : hR (wI (wI (wI (wR (wN (wR (wN (wN S 1 0 5) 8 (128 : Int).toNat (128 : Int).toNat) a 0 (some (a + 1))) 10 (64 : Int).toNat (64 : Int).toNat) a 1 (some (a + 2))) a 2 0) a 3 0) a 4 1) a 0 = some (a + 1) := by
      simp only [hk_wI, hk_wR, hk_wN, hl_wI, hl_wR, hl_wN, hn_wI, hn_wR, hn_wN, hu_wI, hu_wR, hu_wN, hI_wI, hI_wR, hI_wN, hR_wI, hR_wR, hR_wN, n1]; (repeat (first | rw [if_pos (by first | omega | exact trivial | exact ⟨trivial, trivial⟩)] | rw [if_neg (by first | omega | exact not_false)]))
    rw [r0, fill_eq (n := 128) (by simp only [hk_wI, hk_wR, hk_wN, hl_wI, hl_wR, hl_wN, hn_wI, hn_wR, hn_wN, hu_wI, hu_wR, hu_wN, hI_wI, hI_wR, hI_wN, hR_wI, hR_wR, hR_wN, n1]; (repeat (first | rw [if_pos (by first | omega | exact trivial | exact ⟨trivial, trivial⟩)] | rw [if_neg (by first | omega | exact not_false)]))) (by simp only [hk_wI, hk_wR, hk_wN, hl_wI, hl_wR, hl_wN, hn_wI, hn_wR, hn_wN, hu_wI, hu_wR, hu_wN, hI_wI, hI_wR, hI_wN, hR_wI, hR_wR, hR_wN, n1]; (repeat (first | rw [if_pos (by first | omega | exact trivial | exact ⟨trivial, trivial⟩)] | rw [if_neg (by first | omega | exact not_false)])); rfl) (by decide), cV_s, rV_s, cN_s]
    rfl
  refine ⟨_, e, ⟨by rw [ha]; show hn (wN (wN (wN S 1 0 5) 8 128 128) 10 64 64) = a + 3; simp only [hn_wN, ha], rfl, fun x hx => ?_⟩, ?_⟩
  · refine (((((((((Od.n (by omega)).tr (Od.n (by rw [n1]; omega))).tr (Od.r (by omega))).tr (Od.n (by simp only [hk_wI, hk_wR, hk_wN, hl_wI, hl_wR, hl_wN, hn_wI, hn_wR, hn_wN, hu_wI, hu_wR, hu_wN, hI_wI, hI_wR, hI_wN, hR_wI, hR_wR, hR_wN, ha]; omega))).tr (Od.r (by omega))).tr (Od.w (by omega))).tr (Od.w (by omega))).tr (Od.w (by omega))).tr (Od.f (by omega)))
  · have fI : ∀ (J : Nat → Nat → Int) (X : AS), hI (stI X J) = J := fun _ _ => rfl
    refine ⟨⟨?_, ?_, ?_⟩, ⟨?_, ?_⟩, ⟨?_, ?_⟩, ⟨?_, ?_, ?_⟩, fun q hq => ?_⟩
    · show hk (wN (wN (wN S 1 0 5) 8 128 128) 10 64 64) a = 1
      simp only [hk_wI, hk_wR, hk_wN, hl_wI, hl_wR, hl_wN, hn_wI, hn_wR, hn_wN, hu_wI, hu_wR, hu_wN, hI_wI, hI_wR, hI_wN, hR_wI, hR_wR, hR_wN, ha]; (repeat (first | rw [if_pos (by first | omega | exact trivial | exact ⟨trivial, trivial⟩)] | rw [if_neg (by first | omega | exact not_false)]))
    · show hk (wN (wN (wN S 1 0 5) 8 128 128) 10 64 64) (a + 1) = 8
      simp only [hk_wI, hk_wR, hk_wN, hl_wI, hl_wR, hl_wN, hn_wI, hn_wR, hn_wN, hu_wI, hu_wR, hu_wN, hI_wI, hI_wR, hI_wN, hR_wI, hR_wR, hR_wN, ha]; (repeat (first | rw [if_pos (by first | omega | exact trivial | exact ⟨trivial, trivial⟩)] | rw [if_neg (by first | omega | exact not_false)]))
    · show hk (wN (wN (wN S 1 0 5) 8 128 128) 10 64 64) (a + 2) = 10
      simp only [hk_wI, hk_wR, hk_wN, hl_wI, hl_wR, hl_wN, hn_wI, hn_wR, hn_wN, hu_wI, hu_wR, hu_wN, hI_wI, hI_wR, hI_wN, hR_wI, hR_wR, hR_wN, ha]; (repeat (first | rw [if_pos (by first | omega | exact trivial | exact ⟨trivial, trivial⟩)] | rw [if_neg (by first | omega | exact not_false)]))
    · show hl (wN (wN (wN S 1 0 5) 8 128 128) 10 64 64) (a + 1) = 128
      simp only [hk_wI, hk_wR, hk_wN, hl_wI, hl_wR, hl_wN, hn_wI, hn_wR, hn_wN, hu_wI, hu_wR, hu_wN, hI_wI, hI_wR, hI_wN, hR_wI, hR_wR, hR_wN, ha]; (repeat (first | rw [if_pos (by first | omega | exact trivial | exact ⟨trivial, trivial⟩)] | rw [if_neg (by first | omega | exact not_false)]))
    · show hl (wN (wN (wN S 1 0 5) 8 128 128) 10 64 64) (a + 2) = 64
      simp only [hk_wI, hk_wR, hk_wN, hl_wI, hl_wR, hl_wN, hn_wI, hn_wR, hn_wN, hu_wI, hu_wR, hu_wN, hI_wI, hI_wR, hI_wN, hR_wI, hR_wR, hR_wN, ha]; (repeat (first | rw [if_pos (by first | omega | exact trivial | exact ⟨trivial, trivial⟩)] | rw [if_neg (by first | omega | exact not_false)]))
    · show hR (wR (wN (wR (wN (wN S 1 0 5) 8 128 128) a 0 (some (a + 1))) 10 64 64) a 1 (some (a + 2))) a 0 = some (a + 1)
      simp only [hk_wI, hk_wR, hk_wN, hl_wI, hl_wR, hl_wN, hn_wI, hn_wR, hn_wN, hu_wI, hu_wR, hu_wN, hI_wI, hI_wR, hI_wN, hR_wI, hR_wR, hR_wN, ha]; (repeat (first | rw [if_pos (by first | omega | exact trivial | exact ⟨trivial, trivial⟩)] | rw [if_neg (by first | omega | exact not_false)]))
    · show hR (wR (wN (wR (wN (wN S 1 0 5) 8 128 128) a 0 (some (a + 1))) 10 64 64) a 1 (some (a + 2))) a 1 = some (a + 2)
      simp only [hk_wI, hk_wR, hk_wN, hl_wI, hl_wR, hl_wN, hn_wI, hn_wR, hn_wN, hu_wI, hu_wR, hu_wN, hI_wI, hI_wR, hI_wN, hR_wI, hR_wR, hR_wN, ha]; (repeat (first | rw [if_pos (by first | omega | exact trivial | exact ⟨trivial, trivial⟩)] | rw [if_neg (by first | omega | exact not_false)]))
    · rw [fI]; unfold fl; rw [if_neg (by omega)]; simp only [hk_wI, hk_wR, hk_wN, hl_wI, hl_wR, hl_wN, hn_wI, hn_wR, hn_wN, hu_wI, hu_wR, hu_wN, hI_wI, hI_wR, hI_wN, hR_wI, hR_wR, hR_wN, ha]; (repeat (first | rw [if_pos (by first | omega | exact trivial | exact ⟨trivial, trivial⟩)] | rw [if_neg (by first | omega | exact not_false)]))
    · rw [fI]; unfold fl; rw [if_neg (by omega)]; simp only [hk_wI, hk_wR, hk_wN, hl_wI, hl_wR, hl_wN, hn_wI, hn_wR, hn_wN, hu_wI, hu_wR, hu_wN, hI_wI, hI_wR, hI_wN, hR_wI, hR_wR, hR_wN, ha]; (repeat (first | rw [if_pos (by first | omega | exact trivial | exact ⟨trivial, trivial⟩)] | rw [if_neg (by first | omega | exact not_false)]))
    · rw [fI]; unfold fl; rw [if_neg (by omega)]; simp only [hk_wI, hk_wR, hk_wN, hl_wI, hl_wR, hl_wN, hn_wI, hn_wR, hn_wN, hu_wI, hu_wR, hu_wN, hI_wI, hI_wR, hI_wN, hR_wI, hR_wR, hR_wN, ha]; (repeat (first | rw [if_pos (by first | omega | exact trivial | exact ⟨trivial, trivial⟩)] | rw [if_neg (by first | omega | exact not_false)]))
    · rw [fI]; unfold fl; rw [if_pos (by omega)]
