/-! the twin of an Inside; a new Shell -/
theorem kln_ok {S : AS} {a : Nat} (h : hk S a = 8) (h1 : hn S < CM) (h2 : hu S + hl S a ≤ UM) : kln S (some a) = some (wK S a) := if_pos ⟨h, h1, h2⟩
theorem cpy_ok {S : AS} {a d n kd : Nat} (h1 : hk S a = kd) (h2 : hk S d = kd) (h3 : n ≤ hl S a) (h4 : n ≤ hl S d) : cpy S (some a) 0 (some d) 0 (n : Int) kd = some (wC S a d 0 0 n) := if_pos ⟨h1, h2, by omega, by omega, by omega, by omega, by omega⟩
theorem plInit_ok {S : AS} {p : Nat} (h : hk S p = 4) (o0 o1 o2 : Option Nat) : f_X3_init (some p) o0 o1 o2 S = some ((0, 0, none), wR (wR (wR S p 0 o0) p 1 o1) p 2 o2) := by
  unfold f_X3_init
  show gd true _ = _
  rw [gd_1, pR_at h, Option.bind_some, pR_at (S := wR S p 0 o0) h, Option.bind_some, pR_at (S := wR (wR S p 0 o0) p 1 o1) h, Option.bind_some, rV_s]
theorem addPl_ok {S : AS} {b k P : Nat} (h1 : hk S b = 1) (h2 : hR S b 1 = some (b + 2)) (h3 : hk S (b + 2) = 10) (h4 : hl S (b + 2) = 64) (h5 : hI S b 2 = k) (hk64 : k < 64) (hP : hk S P = 4) : f_X0_addPlacement (some b) (some P) S = some ((0, (k : Int), none), wI (wR S (b + 2) k (some P)) b 2 ((k : Int) + 1)) := by
  unfold f_X0_addPlacement
  rw [gR_at h1, Option.bind_some, h2, gI_at h1, Option.bind_some, h5, sR_at h3 (by omega) (by rw [h4]; omega) hP, Option.bind_some, tn]
  rw [gI_at (S := wR S (b + 2) k (some P)) h1, Option.bind_some, show hI (wR S (b + 2) k (some P)) b 2 = hI S b 2 from rfl, h5, chk_ok (by omega) (by omega), Option.bind_some, pI_at (S := wR S (b + 2) k (some P)) h1, Option.bind_some]
  rw [gI_at (S := wI (wR S (b + 2) k (some P)) b 2 ((k : Int) + 1)) h1, Option.bind_some, hI_w0, chk_ok (by omega) (by omega), Option.bind_some, rI_s, Int.add_sub_cancel]
/-- what the twin is made of -/
def TwS (S : AS) (a n : Nat) (p z : Nat → Nat) : Prop :=
  (a + 2 < hn S ∧ n ≤ 64) ∧ (hk S a = 1 ∧ hk S (a + 1) = 8 ∧ hk S (a + 2) = 10) ∧ (hl S (a + 1) = 128 ∧ hl S (a + 2) = 64) ∧ (hR S a 0 = some (a + 1) ∧ hR S a 1 = some (a + 2)) ∧ hI S a 2 = n ∧
  ∀ t, t < n → hR S (a + 2) t = some (p t) ∧ (p t < hn S ∧ hk S (p t) = 4) ∧ hR S (p t) 2 = some (z t) ∧ (z t < hn S ∧ hk S (z t) = 8 ∧ hl S (z t) ≤ 128)
/-- the twin at b, with k placements -/
def TwF (S T : AS) (a b k : Nat) (p z : Nat → Nat) : Prop :=
  (hn T = b + 3 + 2 * k ∧ hu T ≤ hu S + 197 + 131 * k) ∧ (∀ x, x < b → Od x S T) ∧ (hk T b = 1 ∧ hk T (b + 1) = 8 ∧ hk T (b + 2) = 10) ∧ (hl T (b + 1) = 128 ∧ hl T (b + 2) = 64) ∧ (hR T b 0 = some (b + 1) ∧ hR T b 1 = some (b + 2)) ∧ (hI T b 2 = k ∧ hI T b 4 = 1) ∧ (∀ q, q < 128 → hI T (b + 1) q = hI S (a + 1) q) ∧
  ∀ t, t < k → hR T (b + 2) t = some (b + 3 + 2 * t) ∧ hk T (b + 3 + 2 * t) = 4 ∧ (hR T (b + 3 + 2 * t) 0 = hR S (p t) 0 ∧ hR T (b + 3 + 2 * t) 1 = hR S (p t) 1 ∧ hR T (b + 3 + 2 * t) 2 = some (b + 4 + 2 * t)) ∧ (hk T (b + 4 + 2 * t) = 8 ∧ hl T (b + 4 + 2 * t) = hl S (z t)) ∧ ∀ q, hI T (b + 4 + 2 * t) q = hI S (z t) q
theorem tw_step {S T : AS} {a b n k : Nat} {p z : Nat → Nat} (hs : TwS S a n p z) (hb : hn S = b) (ht : TwF S T a b k p z) (hkn : k < n) : TwF S (wI (wR (wR (wR (wR (wK (wN T 4 0 3) (z k)) (b + 3 + 2 * k) 0 (hR S (p k) 0)) (b + 3 + 2 * k) 1 (hR S (p k) 1)) (b + 3 + 2 * k) 2 (some (b + 4 + 2 * k))) (b + 2) k (some (b + 3 + 2 * k))) b 2 ((k : Int) + 1)) a b (k + 1) p z := by
  obtain ⟨⟨s1, s2⟩, -, -, -, -, s6⟩ := hs
  obtain ⟨⟨t1, t1'⟩, t2, t3, t4, t5, t6, t7, t8⟩ := ht
  obtain ⟨-, -, -, z1, z2, z3⟩ := s6 k hkn
  have lz : hl T (z k) = hl S (z k) := (t2 (z k) (by omega)).2.1
  have nz : hn (wN T 4 0 3) = b + 3 + 2 * k + 1 := by rw [hn_wN, t1]
  have od : ∀ x, x ≠ b + 3 + 2 * k → x ≠ b + 3 + 2 * k + 1 → x ≠ b → x ≠ b + 2 → Od x T (wI (wR (wR (wR (wR (wK (wN T 4 0 3) (z k)) (b + 3 + 2 * k) 0 (hR S (p k) 0)) (b + 3 + 2 * k) 1 (hR S (p k) 1)) (b + 3 + 2 * k) 2 (some (b + 4 + 2 * k))) (b + 2) k (some (b + 3 + 2 * k))) b 2 ((k : Int) + 1)) := fun x h1 h2 h3 h4 => ((((((Od.n (by omega)).tr (Od.k (by omega))).tr (Od.r h1)).tr (Od.r h1)).tr (Od.r h1)).tr (Od.r h4)).tr (Od.w h3)
  refine ⟨⟨?_, ?_⟩, fun x hx => (t2 x hx).tr (od x (by omega) (by omega) (by omega) (by omega)), ⟨?_, ?_, ?_⟩, ⟨?_, ?_⟩, ⟨?_, ?_⟩, ⟨?_, ?_⟩, fun q hq => ?_, fun t htk => ?_⟩
  · simp only [hk_wI, hk_wR, hk_wN, hl_wI, hl_wR, hl_wN, hn_wI, hn_wR, hn_wN, hu_wI, hu_wR, hu_wN, hI_wI, hI_wR, hI_wN, hR_wI, hR_wR, hR_wN, hk_wK, hl_wK, hn_wK, hu_wK, hI_wK, hR_wK, hk_wC, hl_wC, hn_wC, hu_wC, hI_wC, hR_wC, t1]; omega
  · show hu T + 3 + hl (wN T 4 0 3) (z k) ≤ _
    rw [hl_wN, if_neg (by omega), lz]
    omega
  · simp only [hk_wI, hk_wR, hk_wN, hl_wI, hl_wR, hl_wN, hn_wI, hn_wR, hn_wN, hu_wI, hu_wR, hu_wN, hI_wI, hI_wR, hI_wN, hR_wI, hR_wR, hR_wN, hk_wK, hl_wK, hn_wK, hu_wK, hI_wK, hR_wK, hk_wC, hl_wC, hn_wC, hu_wC, hI_wC, hR_wC, t1]; (repeat (first | rw [if_pos (by first | omega | exact trivial | exact ⟨trivial, trivial⟩)] | rw [if_neg (by first | omega | exact not_false)])); exact t3.1
  · simp only [hk_wI, hk_wR, hk_wN, hl_wI, hl_wR, hl_wN, hn_wI, hn_wR, hn_wN, hu_wI, hu_wR, hu_wN, hI_wI, hI_wR, hI_wN, hR_wI, hR_wR, hR_wN, hk_wK, hl_wK, hn_wK, hu_wK, hI_wK, hR_wK, hk_wC, hl_wC, hn_wC, hu_wC, hI_wC, hR_wC, t1]; (repeat (first | rw [if_pos (by first | omega | exact trivial | exact ⟨trivial, trivial⟩)] | rw [if_neg (by first | omega | exact not_false)])); exact t3.2.1
  · simp only [hk_wI, hk_wR, hk_wN, hl_wI, hl_wR, hl_wN, hn_wI, hn_wR, hn_wN, hu_wI, hu_wR, hu_wN, hI_wI, hI_wR, hI_wN, hR_wI, hR_wR, hR_wN, hk_wK, hl_wK, hn_wK, hu_wK, hI_wK, hR_wK, hk_wC, hl_wC, hn_wC, hu_wC, hI_wC, hR_wC, t1]; (repeat (first | rw [if_pos (by first | omega | exact trivial | exact ⟨trivial, trivial⟩)] | rw [if_neg (by first | omega | exact not_false)])); exact t3.2.2
  · simp only [hk_wI, hk_wR, hk_wN, hl_wI, hl_wR, hl_wN, hn_wI, hn_wR, hn_wN, hu_wI, hu_wR, hu_wN, hI_wI, hI_wR, hI_wN, hR_wI, hR_wR, hR_wN, hk_wK, hl_wK, hn_wK, hu_wK, hI_wK, hR_wK, hk_wC, hl_wC, hn_wC, hu_wC, hI_wC, hR_wC, t1]; (repeat (first | rw [if_pos (by first | omega | exact trivial | exact ⟨trivial, trivial⟩)] | rw [if_neg (by first | omega | exact not_false)])); exact t4.1
  · simp only [hk_wI, hk_wR, hk_wN, hl_wI, hl_wR, hl_wN, hn_wI, hn_wR, hn_wN, hu_wI, hu_wR, hu_wN, hI_wI, hI_wR, hI_wN, hR_wI, hR_wR, hR_wN, hk_wK, hl_wK, hn_wK, hu_wK, hI_wK, hR_wK, hk_wC, hl_wC, hn_wC, hu_wC, hI_wC, hR_wC, t1]; (repeat (first | rw [if_pos (by first | omega | exact trivial | exact ⟨trivial, trivial⟩)] | rw [if_neg (by first | omega | exact not_false)])); exact t4.2
  · simp only [hk_wI, hk_wR, hk_wN, hl_wI, hl_wR, hl_wN, hn_wI, hn_wR, hn_wN, hu_wI, hu_wR, hu_wN, hI_wI, hI_wR, hI_wN, hR_wI, hR_wR, hR_wN, hk_wK, hl_wK, hn_wK, hu_wK, hI_wK, hR_wK, hk_wC, hl_wC, hn_wC, hu_wC, hI_wC, hR_wC, t1]; (repeat (first | rw [if_pos (by first | omega | exact trivial | exact ⟨trivial, trivial⟩)] | rw [if_neg (by first | omega | exact not_false)])); exact t5.1
  · simp only [hk_wI, hk_wR, hk_wN, hl_wI, hl_wR, hl_wN, hn_wI, hn_wR, hn_wN, hu_wI, hu_wR, hu_wN, hI_wI, hI_wR, hI_wN, hR_wI, hR_wR, hR_wN, hk_wK, hl_wK, hn_wK, hu_wK, hI_wK, hR_wK, hk_wC, hl_wC, hn_wC, hu_wC, hI_wC, hR_wC, t1]; (repeat (first | rw [if_pos (by first | omega | exact trivial | exact ⟨trivial, trivial⟩)] | rw [if_neg (by first | omega | exact not_false)])); exact t5.2
  · rw [hI_w0]; omega
  · simp only [hk_wI, hk_wR, hk_wN, hl_wI, hl_wR, hl_wN, hn_wI, hn_wR, hn_wN, hu_wI, hu_wR, hu_wN, hI_wI, hI_wR, hI_wN, hR_wI, hR_wR, hR_wN, hk_wK, hl_wK, hn_wK, hu_wK, hI_wK, hR_wK, hk_wC, hl_wC, hn_wC, hu_wC, hI_wC, hR_wC, t1]; (repeat (first | rw [if_pos (by first | omega | exact trivial | exact ⟨trivial, trivial⟩)] | rw [if_neg (by first | omega | exact not_false)])); exact t6.2
  · rw [(od (b + 1) (by omega) (by omega) (by omega) (by omega)).2.2.1]; exact t7 q hq
  · by_cases hc : t = k
    · subst hc
      have e4 : b + 4 + 2 * t = b + 3 + 2 * t + 1 := by omega
      rw [e4]
      refine ⟨?_, ?_, ⟨?_, ?_, ?_⟩, ⟨?_, ?_⟩, fun q => ?_⟩
      · simp only [hk_wI, hk_wR, hk_wN, hl_wI, hl_wR, hl_wN, hn_wI, hn_wR, hn_wN, hu_wI, hu_wR, hu_wN, hI_wI, hI_wR, hI_wN, hR_wI, hR_wR, hR_wN, hk_wK, hl_wK, hn_wK, hu_wK, hI_wK, hR_wK, hk_wC, hl_wC, hn_wC, hu_wC, hI_wC, hR_wC, t1]; (repeat (first | rw [if_pos (by first | omega | exact trivial | exact ⟨trivial, trivial⟩)] | rw [if_neg (by first | omega | exact not_false)]))
      · simp only [hk_wI, hk_wR, hk_wN, hl_wI, hl_wR, hl_wN, hn_wI, hn_wR, hn_wN, hu_wI, hu_wR, hu_wN, hI_wI, hI_wR, hI_wN, hR_wI, hR_wR, hR_wN, hk_wK, hl_wK, hn_wK, hu_wK, hI_wK, hR_wK, hk_wC, hl_wC, hn_wC, hu_wC, hI_wC, hR_wC, t1]; (repeat (first | rw [if_pos (by first | omega | exact trivial | exact ⟨trivial, trivial⟩)] | rw [if_neg (by first | omega | exact not_false)]))
      · simp only [hk_wI, hk_wR, hk_wN, hl_wI, hl_wR, hl_wN, hn_wI, hn_wR, hn_wN, hu_wI, hu_wR, hu_wN, hI_wI, hI_wR, hI_wN, hR_wI, hR_wR, hR_wN, hk_wK, hl_wK, hn_wK, hu_wK, hI_wK, hR_wK, hk_wC, hl_wC, hn_wC, hu_wC, hI_wC, hR_wC, t1]; (repeat (first | rw [if_pos (by first | omega | exact trivial | exact ⟨trivial, trivial⟩)] | rw [if_neg (by first | omega | exact not_false)]))
      · simp only [hk_wI, hk_wR, hk_wN, hl_wI, hl_wR, hl_wN, hn_wI, hn_wR, hn_wN, hu_wI, hu_wR, hu_wN, hI_wI, hI_wR, hI_wN, hR_wI, hR_wR, hR_wN, hk_wK, hl_wK, hn_wK, hu_wK, hI_wK, hR_wK, hk_wC, hl_wC, hn_wC, hu_wC, hI_wC, hR_wC, t1]; (repeat (first | rw [if_pos (by first | omega | exact trivial | exact ⟨trivial, trivial⟩)] | rw [if_neg (by first | omega | exact not_false)]))
      · simp only [hk_wI, hk_wR, hk_wN, hl_wI, hl_wR, hl_wN, hn_wI, hn_wR, hn_wN, hu_wI, hu_wR, hu_wN, hI_wI, hI_wR, hI_wN, hR_wI, hR_wR, hR_wN, hk_wK, hl_wK, hn_wK, hu_wK, hI_wK, hR_wK, hk_wC, hl_wC, hn_wC, hu_wC, hI_wC, hR_wC, t1]; (repeat (first | rw [if_pos (by first | omega | exact trivial | exact ⟨trivial, trivial⟩)] | rw [if_neg (by first | omega | exact not_false)]))
      · simp only [hk_wI, hk_wR, hk_wN, hl_wI, hl_wR, hl_wN, hn_wI, hn_wR, hn_wN, hu_wI, hu_wR, hu_wN, hI_wI, hI_wR, hI_wN, hR_wI, hR_wR, hR_wN, hk_wK, hl_wK, hn_wK, hu_wK, hI_wK, hR_wK, hk_wC, hl_wC, hn_wC, hu_wC, hI_wC, hR_wC, t1]; (repeat (first | rw [if_pos (by first | omega | exact trivial | exact ⟨trivial, trivial⟩)] | rw [if_neg (by first | omega | exact not_false)]))
      · simp only [hk_wI, hk_wR, hk_wN, hl_wI, hl_wR, hl_wN, hn_wI, hn_wR, hn_wN, hu_wI, hu_wR, hu_wN, hI_wI, hI_wR, hI_wN, hR_wI, hR_wR, hR_wN, hk_wK, hl_wK, hn_wK, hu_wK, hI_wK, hR_wK, hk_wC, hl_wC, hn_wC, hu_wC, hI_wC, hR_wC, t1]; (repeat (first | rw [if_pos (by first | omega | exact trivial | exact ⟨trivial, trivial⟩)] | rw [if_neg (by first | omega | exact not_false)])); exact lz
      · simp only [hk_wI, hk_wR, hk_wN, hl_wI, hl_wR, hl_wN, hn_wI, hn_wR, hn_wN, hu_wI, hu_wR, hu_wN, hI_wI, hI_wR, hI_wN, hR_wI, hR_wR, hR_wN, hk_wK, hl_wK, hn_wK, hu_wK, hI_wK, hR_wK, hk_wC, hl_wC, hn_wC, hu_wC, hI_wC, hR_wC, t1]; (repeat (first | rw [if_pos (by first | omega | exact trivial | exact ⟨trivial, trivial⟩)] | rw [if_neg (by first | omega | exact not_false)])); exact (t2 (z t) (by omega)).2.2.1 q
    · obtain ⟨u1, u2, u3, u4, u5⟩ := t8 t (by omega)
      have o1 := od (b + 3 + 2 * t) (by omega) (by omega) (by omega) (by omega)
      have o2 := od (b + 4 + 2 * t) (by omega) (by omega) (by omega) (by omega)
      refine ⟨?_, by rw [o1.1]; exact u2, by simp only [o1.2.2.2]; exact u3, by rw [o2.1, o2.2.1]; exact u4, fun q => by rw [o2.2.2.1]; exact u5 q⟩
      simp only [hk_wI, hk_wR, hk_wN, hl_wI, hl_wR, hl_wN, hn_wI, hn_wR, hn_wN, hu_wI, hu_wR, hu_wN, hI_wI, hI_wR, hI_wN, hR_wI, hR_wR, hR_wN, hk_wK, hl_wK, hn_wK, hu_wK, hI_wK, hR_wK, hk_wC, hl_wC, hn_wC, hu_wC, hI_wC, hR_wC, t1]; (repeat (first | rw [if_pos (by first | omega | exact trivial | exact ⟨trivial, trivial⟩)] | rw [if_neg (by first | omega | exact not_false)])); exact u1
theorem twin_26 {S : AS} {a b n : Nat} {p z : Nat → Nat} (hs : TwS S a n p z) (hb : hn S = b) (r1 : b + 3 + 2 * n ≤ CM) (r2 : hu S + 197 + 131 * n ≤ UM) : ∀ (d k fu : Nat) (T : AS), n = k + d → d < fu → TwF S T a b k p z → ∃ T', f_X0_twin_26 fu (some a) (some b) k T = some ((0, 0, some b), T') ∧ hI T' b 3 = hI S a 3 ∧ TwF S T' a b n p z := by
  intro d
  induction d with
  | zero =>
    intro k fu T hkd hf ht
    obtain ⟨fu, rfl⟩ : ∃ z, fu = z + 1 := ⟨fu - 1, by omega⟩
    have hkn : k = n := by omega
    subst hkn
    have oa := ht.2.1 a (by have := hs.1.1; omega)
    have ka : hk T a = 1 := oa.1.trans hs.2.1.1
    refine ⟨wI T b 3 (hI S a 3), ?_, hI_w0 _ _ _ _, ?_⟩
    · unfold f_X0_twin_26
      rw [gI_at ka, Option.bind_some, oa.2.2.1 2, hs.2.2.2.2.1, if_pos (by omega), gI_at ka, Option.bind_some, oa.2.2.1 3, pI_at ht.2.2.1.1, Option.bind_some, rR_s]
    · obtain ⟨t1, t2, t3, t4, t5, t6, t7, t8⟩ := ht
      refine ⟨t1, fun x hx => (t2 x hx).tr (Od.w (by omega)), t3, t4, t5, ⟨?_, ?_⟩, fun q hq => ?_, fun t htk => ?_⟩
      · rw [hI_wI, if_neg (by omega)]; exact t6.1
      · rw [hI_wI, if_neg (by omega)]; exact t6.2
      · rw [hI_wI, if_neg (by omega)]; exact t7 q hq
      · obtain ⟨u1, u2, u3, u4, u5⟩ := t8 t htk
        exact ⟨u1, u2, u3, u4, fun q => by rw [hI_wI, if_neg (by omega)]; exact u5 q⟩
  | succ d ih =>
    intro k fu T hkd hf ht
    obtain ⟨fu, rfl⟩ : ∃ z, fu = z + 1 := ⟨fu - 1, by omega⟩
    have hkn : k < n := by omega
    obtain ⟨⟨s1, s2⟩, s3, s4, s5, s6, s7⟩ := hs
    obtain ⟨p1, p2, p3, p4⟩ := s7 k hkn
    have hs' : TwS S a n p z := ⟨⟨s1, s2⟩, s3, s4, s5, s6, s7⟩
    have oa := ht.2.1 a (by omega)
    have oa2 := ht.2.1 (a + 2) (by omega)
    have op := ht.2.1 (p k) (by omega)
    have oz := ht.2.1 (z k) (by omega)
    have ka : hk T a = 1 := oa.1.trans s3.1
    obtain ⟨T', e, w⟩ := ih (k + 1) fu _ (by omega) (by omega) (tw_step hs' hb ht hkn)
    refine ⟨T', ?_, w⟩
    rw [← e]
    obtain ⟨⟨t1, t1'⟩, t2, t3, t4, t5, t6, t7, t8⟩ := ht
    have nP : hn T = b + 3 + 2 * k := t1
    conv => lhs; unfold f_X0_twin_26
    rw [gI_at ka, Option.bind_some, oa.2.2.1 2, s6, if_neg (by omega), gR_at ka, Option.bind_some, oa.2.2.2 1, s5.2, aR_at (oa2.1.trans s3.2.2) (by omega) (by rw [oa2.2.1, s4.2]; omega), Option.bind_some, tn, oa2.2.2.2 k, p1, nO_ok (by omega) (by show hu T + 3 ≤ UM; omega), Option.bind_some, show wN T 4 0 (NC (4 - 1)) = wN T 4 0 3 from rfl]
    have kp : hk (wN T 4 0 3) (p k) = 4 := by rw [hk_wN, if_neg (by omega), op.1]; exact p2.2
    have r0 : hR (wN T 4 0 3) (p k) 0 = hR S (p k) 0 := by rw [hR_wN, if_neg (by omega), op.2.2.2]
    have r1' : hR (wN T 4 0 3) (p k) 1 = hR S (p k) 1 := by rw [hR_wN, if_neg (by omega), op.2.2.2]
    have r2' : hR (wN T 4 0 3) (p k) 2 = some (z k) := by rw [hR_wN, if_neg (by omega), op.2.2.2, p3]
    have lz : hl (wN T 4 0 3) (z k) = hl S (z k) := by rw [hl_wN, if_neg (by omega), oz.2.1]
    have nN : hn (wN T 4 0 3) = b + 3 + 2 * k + 1 := by rw [hn_wN, nP]
    rw [gR_at kp, Option.bind_some, r0, gR_at kp, Option.bind_some, r1', gR_at kp, Option.bind_some, r2', kln_ok (by rw [hk_wN, if_neg (by omega), oz.1]; exact p4.2.1) (by rw [nN]; omega) (by rw [lz]; show hu T + 3 + hl S (z k) ≤ UM; omega), Option.bind_some, nN, nP, isK_at (by rw [hk_wK, if_pos nN.symm]), gd_1]
    rw [plInit_ok (by simp only [hk_wI, hk_wR, hk_wN, hl_wI, hl_wR, hl_wN, hn_wI, hn_wR, hn_wN, hu_wI, hu_wR, hu_wN, hI_wI, hI_wR, hI_wN, hR_wI, hR_wR, hR_wN, hk_wK, hl_wK, hn_wK, hu_wK, hI_wK, hR_wK, hk_wC, hl_wC, hn_wC, hu_wC, hI_wC, hR_wC, nP]; (repeat (first | rw [if_pos (by first | omega | exact trivial | exact ⟨trivial, trivial⟩)] | rw [if_neg (by first | omega | exact not_false)]))), cN_s, isK_at (by simp only [hk_wI, hk_wR, hk_wN, hl_wI, hl_wR, hl_wN, hn_wI, hn_wR, hn_wN, hu_wI, hu_wR, hu_wN, hI_wI, hI_wR, hI_wN, hR_wI, hR_wR, hR_wN, hk_wK, hl_wK, hn_wK, hu_wK, hI_wK, hR_wK, hk_wC, hl_wC, hn_wC, hu_wC, hI_wC, hR_wC, nP]; (repeat (first | rw [if_pos (by first | omega | exact trivial | exact ⟨trivial, trivial⟩)] | rw [if_neg (by first | omega | exact not_false)])); exact t3.1), gd_1]
    rw [addPl_ok (k := k) (by simp only [hk_wI, hk_wR, hk_wN, hl_wI, hl_wR, hl_wN, hn_wI, hn_wR, hn_wN, hu_wI, hu_wR, hu_wN, hI_wI, hI_wR, hI_wN, hR_wI, hR_wR, hR_wN, hk_wK, hl_wK, hn_wK, hu_wK, hI_wK, hR_wK, hk_wC, hl_wC, hn_wC, hu_wC, hI_wC, hR_wC, nP]; (repeat (first | rw [if_pos (by first | omega | exact trivial | exact ⟨trivial, trivial⟩)] | rw [if_neg (by first | omega | exact not_false)])); exact t3.1) (by simp only [hk_wI, hk_wR, hk_wN, hl_wI, hl_wR, hl_wN, hn_wI, hn_wR, hn_wN, hu_wI, hu_wR, hu_wN, hI_wI, hI_wR, hI_wN, hR_wI, hR_wR, hR_wN, hk_wK, hl_wK, hn_wK, hu_wK, hI_wK, hR_wK, hk_wC, hl_wC, hn_wC, hu_wC, hI_wC, hR_wC, nP]; (repeat (first | rw [if_pos (by first | omega | exact trivial | exact ⟨trivial, trivial⟩)] | rw [if_neg (by first | omega | exact not_false)])); exact t5.2) (by simp only [hk_wI, hk_wR, hk_wN, hl_wI, hl_wR, hl_wN, hn_wI, hn_wR, hn_wN, hu_wI, hu_wR, hu_wN, hI_wI, hI_wR, hI_wN, hR_wI, hR_wR, hR_wN, hk_wK, hl_wK, hn_wK, hu_wK, hI_wK, hR_wK, hk_wC, hl_wC, hn_wC, hu_wC, hI_wC, hR_wC, nP]; (repeat (first | rw [if_pos (by first | omega | exact trivial | exact ⟨trivial, trivial⟩)] | rw [if_neg (by first | omega | exact not_false)])); exact t3.2.2) (by simp only [hk_wI, hk_wR, hk_wN, hl_wI, hl_wR, hl_wN, hn_wI, hn_wR, hn_wN, hu_wI, hu_wR, hu_wN, hI_wI, hI_wR, hI_wN, hR_wI, hR_wR, hR_wN, hk_wK, hl_wK, hn_wK, hu_wK, hI_wK, hR_wK, hk_wC, hl_wC, hn_wC, hu_wC, hI_wC, hR_wC, nP]; (repeat (first | rw [if_pos (by first | omega | exact trivial | exact ⟨trivial, trivial⟩)] | rw [if_neg (by first | omega | exact not_false)])); exact t4.2) (by simp only [hk_wI, hk_wR, hk_wN, hl_wI, hl_wR, hl_wN, hn_wI, hn_wR, hn_wN, hu_wI, hu_wR, hu_wN, hI_wI, hI_wR, hI_wN, hR_wI, hR_wR, hR_wN, hk_wK, hl_wK, hn_wK, hu_wK, hI_wK, hR_wK, hk_wC, hl_wC, hn_wC, hu_wC, hI_wC, hR_wC, nP]; (repeat (first | rw [if_pos (by first | omega | exact trivial | exact ⟨trivial, trivial⟩)] | rw [if_neg (by first | omega | exact not_false)])); exact t6.1) (by omega) (by simp only [hk_wI, hk_wR, hk_wN, hl_wI, hl_wR, hl_wN, hn_wI, hn_wR, hn_wN, hu_wI, hu_wR, hu_wN, hI_wI, hI_wR, hI_wN, hR_wI, hR_wR, hR_wN, hk_wK, hl_wK, hn_wK, hu_wK, hI_wK, hR_wK, hk_wC, hl_wC, hn_wC, hu_wC, hI_wC, hR_wC, nP]; (repeat (first | rw [if_pos (by first | omega | exact trivial | exact ⟨trivial, trivial⟩)] | rw [if_neg (by first | omega | exact not_false)]))), cI_s, chk_ok (by omega) (by omega), Option.bind_some]
    rw [show b + 4 + 2 * k = b + 3 + 2 * k + 1 by omega]
    rfl
theorem twin_eq {S : AS} {a n : Nat} {p z : Nat → Nat} (hs : TwS S a n p z) (r1 : hn S + 3 + 2 * n ≤ CM) (r2 : hu S + 197 + 131 * n ≤ UM) : ∃ T, f_X0_twin (some a) S = some ((0, 0, some (hn S)), T) ∧ hI T (hn S) 3 = hI S a 3 ∧ TwF S T a (hn S) n p z := by
  obtain ⟨T, e, w1, w2⟩ := newInside (S := S) (by omega) (by omega)
  obtain ⟨⟨s1, s2⟩, s3, s4, s5, s6, s7⟩ := hs
  have hs' : TwS S a n p z := ⟨⟨s1, s2⟩, s3, s4, s5, s6, s7⟩
  have oa := w1.2.2 a (by omega)
  have oa1 := w1.2.2 (a + 1) (by omega)
  obtain ⟨i1, i2, i3, i4, i5⟩ := w2
  have tf : TwF S (wC T (a + 1) (hn S + 1) 0 0 128) a (hn S) 0 p z := by
    refine ⟨⟨by rw [hn_wC, w1.1], by rw [hu_wC, w1.2.1]; omega⟩, fun x hx => (w1.2.2 x hx).tr (Od.c (by omega)), i1, i2, i3, ⟨?_, ?_⟩, fun q hq => ?_, fun t ht => absurd ht (Nat.not_lt_zero t)⟩
    · rw [hI_wC, if_neg (by omega)]; exact i4.1
    · rw [hI_wC, if_neg (by omega)]; exact i4.2.2
    · rw [hI_wC, if_pos (by omega), show 0 + (q - 0) = q by omega]; exact oa1.2.2.1 q
  obtain ⟨T', e', w'⟩ := twin_26 hs' rfl r1 r2 n 0 FU _ (by omega) (FU_gt (by omega)) tf
  refine ⟨T', ?_, w'⟩
  unfold f_X0_twin
  rw [e, gR_at (oa.1.trans s3.1), Option.bind_some, oa.2.2.2, s5.1, gR_at i1.1, Option.bind_some, i3.1]
  rw [show (128 : Int) = ((128 : Nat) : Int) from rfl, cpy_ok (oa1.1.trans s3.2.1) i1.2.1 (by rw [oa1.2.1, s4.1]; omega) (by rw [i2.1]; omega), Option.bind_some]
  exact e'
