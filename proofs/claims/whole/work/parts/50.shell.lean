/-! a new Shell; takePorts -/
/-- a new Shell at s -/
def Sh0 (T : AS) (s n : Nat) (a : Option Nat) : Prop := (hk T s = 5 ∧ hk T (s + 1) = 8 ∧ hk T (s + 2) = 9) ∧ (hl T (s + 1) = 16 ∧ hl T (s + 2) = 128) ∧ (hR T s 1 = some (s + 1) ∧ hR T s 2 = some (s + 2) ∧ hR T s 6 = a) ∧ (hI T s 0 = n ∧ hI T s 3 = 0 ∧ hI T s 4 = 0 ∧ hI T s 5 = 0) ∧ (∀ k, hI T (s + 1) k = 0) ∧ ∀ k, hI T (s + 2) k = 0
theorem newShell {S : AS} {n : Nat} {a : Option Nat} (h : Fix S) (h39 : 39 ≤ hn S) (h1 : hn S + 3 ≤ CM) (h2 : hu S + 151 ≤ UM) (hn9 : hI S 0 1 = n) (hn24 : n < 24) : ∃ T, f_X5_addShell (some 0) a S = some ((0, 0, some (hn S)), T) ∧ (hn T = hn S + 3 ∧ hu T = hu S + 151) ∧ (∀ x, x < hn S → x ≠ 0 → x ≠ 1 → Od x S T) ∧ Fix T ∧ hI T 0 1 = (n : Int) + 1 ∧ (∀ j, hR T 1 j = if j = n then some (hn S) else hR S 1 j) ∧ Sh0 T (hn S) n a := by
  obtain ⟨s, hs⟩ : ∃ s, hn S = s := ⟨_, rfl⟩
  rw [hs]
  have n1 : hn (wN S 5 0 7) = s + 1 := by rw [hn_wN, hs]
  have n3 : hn (wR (wN (wN S 5 0 7) 8 16 16) s 1 (some (s + 1))) = s + 2 := by rw [hn_wR, hn_wN, n1]
  obtain ⟨T3, hT3⟩ : ∃ T3, T3 = wR (wI (wI (wI (wI (wR (wN (wR (wN (wN S 5 0 7) 8 16 16) s 1 (some (s + 1))) 9 128 128) s 2 (some (s + 2))) s 3 0) s 4 0) s 5 0) s 0 n) s 6 a := ⟨_, rfl⟩
  have k1 : hk (wN S 5 0 7) 0 = 6 := by rw [hk_wN, if_neg (by omega)]; exact h.kd (a := 0) (by decide)
  have i1 : hI (wN S 5 0 7) 0 1 = n := by rw [hI_wN, if_neg (by omega)]; exact hn9
  have eI : f_X4_init (some s) n a (wN S 5 0 7) = some ((0, 0, none), T3) := by
    unfold f_X4_init
    show gd true _ = _
    rw [gd_1, nA_ok (by omega) (by rw [n1]; omega) (by show hu S + 7 + 16 ≤ UM; omega), Option.bind_some, n1, show (16 : Int).toNat = 16 from rfl]
    rw [pR_at (by simp only [hk_wI, hk_wR, hk_wN, hl_wI, hl_wR, hl_wN, hn_wI, hn_wR, hn_wN, hu_wI, hu_wR, hu_wN, hI_wI, hI_wR, hI_wN, hR_wI, hR_wR, hR_wN, hs]; (repeat (first | rw [if_pos (by first | omega | exact trivial | exact ⟨trivial, trivial⟩)] | rw [if_neg (by first | omega | exact not_false)]))), Option.bind_some]
    rw [nA_ok (by omega) (by rw [n3]; omega) (by show hu S + 7 + 16 + 128 ≤ UM; omega), Option.bind_some, n3, show (128 : Int).toNat = 128 from rfl]
    rw [pR_at (by simp only [hk_wI, hk_wR, hk_wN, hl_wI, hl_wR, hl_wN, hn_wI, hn_wR, hn_wN, hu_wI, hu_wR, hu_wN, hI_wI, hI_wR, hI_wN, hR_wI, hR_wR, hR_wN, hs]; (repeat (first | rw [if_pos (by first | omega | exact trivial | exact ⟨trivial, trivial⟩)] | rw [if_neg (by first | omega | exact not_false)]))), Option.bind_some, pI_at (by simp only [hk_wI, hk_wR, hk_wN, hl_wI, hl_wR, hl_wN, hn_wI, hn_wR, hn_wN, hu_wI, hu_wR, hu_wN, hI_wI, hI_wR, hI_wN, hR_wI, hR_wR, hR_wN, hs]; (repeat (first | rw [if_pos (by first | omega | exact trivial | exact ⟨trivial, trivial⟩)] | rw [if_neg (by first | omega | exact not_false)]))), Option.bind_some, pI_at (by simp only [hk_wI, hk_wR, hk_wN, hl_wI, hl_wR, hl_wN, hn_wI, hn_wR, hn_wN, hu_wI, hu_wR, hu_wN, hI_wI, hI_wR, hI_wN, hR_wI, hR_wR, hR_wN, hs]; (repeat (first | rw [if_pos (by first | omega | exact trivial | exact ⟨trivial, trivial⟩)] | rw [if_neg (by first | omega | exact not_false)]))), Option.bind_some, pZ_at (by simp only [hk_wI, hk_wR, hk_wN, hl_wI, hl_wR, hl_wN, hn_wI, hn_wR, hn_wN, hu_wI, hu_wR, hu_wN, hI_wI, hI_wR, hI_wN, hR_wI, hR_wR, hR_wN, hs]; (repeat (first | rw [if_pos (by first | omega | exact trivial | exact ⟨trivial, trivial⟩)] | rw [if_neg (by first | omega | exact not_false)]))) (Or.inl rfl), Option.bind_some, pI_at (by simp only [hk_wI, hk_wR, hk_wN, hl_wI, hl_wR, hl_wN, hn_wI, hn_wR, hn_wN, hu_wI, hu_wR, hu_wN, hI_wI, hI_wR, hI_wN, hR_wI, hR_wR, hR_wN, hs]; (repeat (first | rw [if_pos (by first | omega | exact trivial | exact ⟨trivial, trivial⟩)] | rw [if_neg (by first | omega | exact not_false)]))), Option.bind_some, pR_at (by simp only [hk_wI, hk_wR, hk_wN, hl_wI, hl_wR, hl_wN, hn_wI, hn_wR, hn_wN, hu_wI, hu_wR, hu_wN, hI_wI, hI_wR, hI_wN, hR_wI, hR_wR, hR_wN, hs]; (repeat (first | rw [if_pos (by first | omega | exact trivial | exact ⟨trivial, trivial⟩)] | rw [if_neg (by first | omega | exact not_false)]))), Option.bind_some, rV_s, hT3]
  have od3 : ∀ x, x < s → Od x S T3 := fun x hx => by
    rw [hT3]
    exact (((((((((Od.n (by omega)).tr (Od.n (by rw [n1]; omega))).tr (Od.r (by omega))).tr (Od.n (by rw [n3]; omega))).tr (Od.r (by omega))).tr (Od.w (by omega))).tr (Od.w (by omega))).tr (Od.w (by omega))).tr (Od.w (by omega))).tr (Od.r (by omega))
  have f3 : Fix T3 := ⟨fun b hb => by rw [(od3 b (by omega)).1, (od3 b (by omega)).2.1]; exact h.1 b hb, fun r hr => by
    have : ∀ r ∈ rT, r.1 < 39 := by decide
    rw [(od3 r.1 (by have := this r hr; omega)).2.2.2]
    exact h.2 r hr⟩
  have ks3 : hk T3 s = 5 := by rw [hT3]; simp only [hk_wI, hk_wR, hk_wN, hl_wI, hl_wR, hl_wN, hn_wI, hn_wR, hn_wN, hu_wI, hu_wR, hu_wN, hI_wI, hI_wR, hI_wN, hR_wI, hR_wR, hR_wN, hs]; (repeat (first | rw [if_pos (by first | omega | exact trivial | exact ⟨trivial, trivial⟩)] | rw [if_neg (by first | omega | exact not_false)]))
  have e0 : hI T3 0 1 = n := by rw [(od3 0 (by omega)).2.2.1]; exact hn9
  have nr : ∀ r ∈ rT, r.1 ≠ 1 ∨ r.2.1 ≠ n := fun r hr => Or.inl (by
    have : ∀ r ∈ rT, r.1 ≠ 1 := by decide
    exact this r hr)
  have f7 := f3.wR (some s) nr
  have e7 : hI (wR T3 1 n (some s)) 0 1 = n := e0
  refine ⟨wI (wR T3 1 n (some s)) 0 1 ((n : Int) + 1), ?_, ⟨?_, ?_⟩, fun x hx h0 h1 => ?_, f7.wI _ _ _, hI_w0 _ _ _ _, fun j => ?_, ?_⟩
  · unfold f_X5_addShell
    rw [nO_ok (by omega) (by show hu S + 7 ≤ UM; omega), Option.bind_some, show wN S 5 0 (NC (5 - 1)) = wN S 5 0 7 from rfl, gI_at k1, Option.bind_some, i1, hs, eI, cN_s, fr_0_0 f3, Option.bind_some, fg_0 f3, Option.bind_some, e0, fs_1 f3 (by omega) (by omega) ks3, Option.bind_some, tn, fg_0 f7, Option.bind_some, e7, chk_ok (by omega) (by omega), Option.bind_some, fp_0 f7, Option.bind_some, rR_s]
  · show hn T3 = s + 3
    rw [hT3]; simp only [hk_wI, hk_wR, hk_wN, hl_wI, hl_wR, hl_wN, hn_wI, hn_wR, hn_wN, hu_wI, hu_wR, hu_wN, hI_wI, hI_wR, hI_wN, hR_wI, hR_wR, hR_wN, hs]
  · show hu T3 = hu S + 151
    rw [hT3]; rfl
  · exact ((od3 x hx).tr (Od.r h1)).tr (Od.w h0)
  · rw [hR_wI, hR_wR]
    by_cases c : j = n
    · rw [if_pos ⟨rfl, c⟩, if_pos c]
    · rw [if_neg (by omega), if_neg c, (od3 1 (by omega)).2.2.2]
  · have o0 : Od s T3 (wI (wR T3 1 n (some s)) 0 1 ((n : Int) + 1)) := (Od.r (by omega)).tr (Od.w (by omega))
    have o1 : Od (s + 1) T3 (wI (wR T3 1 n (some s)) 0 1 ((n : Int) + 1)) := (Od.r (by omega)).tr (Od.w (by omega))
    have o2 : Od (s + 2) T3 (wI (wR T3 1 n (some s)) 0 1 ((n : Int) + 1)) := (Od.r (by omega)).tr (Od.w (by omega))
    refine ⟨⟨by rw [o0.1]; exact ks3, ?_, ?_⟩, ⟨?_, ?_⟩, ⟨?_, ?_, ?_⟩, ⟨?_, ?_, ?_, ?_⟩, fun k => ?_, fun k => ?_⟩
    · rw [o1.1, hT3]; simp only [hk_wI, hk_wR, hk_wN, hl_wI, hl_wR, hl_wN, hn_wI, hn_wR, hn_wN, hu_wI, hu_wR, hu_wN, hI_wI, hI_wR, hI_wN, hR_wI, hR_wR, hR_wN, hs]; (repeat (first | rw [if_pos (by first | omega | exact trivial | exact ⟨trivial, trivial⟩)] | rw [if_neg (by first | omega | exact not_false)]))
    · rw [o2.1, hT3]; simp only [hk_wI, hk_wR, hk_wN, hl_wI, hl_wR, hl_wN, hn_wI, hn_wR, hn_wN, hu_wI, hu_wR, hu_wN, hI_wI, hI_wR, hI_wN, hR_wI, hR_wR, hR_wN, hs]; (repeat (first | rw [if_pos (by first | omega | exact trivial | exact ⟨trivial, trivial⟩)] | rw [if_neg (by first | omega | exact not_false)]))
    · rw [o1.2.1, hT3]; simp only [hk_wI, hk_wR, hk_wN, hl_wI, hl_wR, hl_wN, hn_wI, hn_wR, hn_wN, hu_wI, hu_wR, hu_wN, hI_wI, hI_wR, hI_wN, hR_wI, hR_wR, hR_wN, hs]; (repeat (first | rw [if_pos (by first | omega | exact trivial | exact ⟨trivial, trivial⟩)] | rw [if_neg (by first | omega | exact not_false)]))
    · rw [o2.2.1, hT3]; simp only [hk_wI, hk_wR, hk_wN, hl_wI, hl_wR, hl_wN, hn_wI, hn_wR, hn_wN, hu_wI, hu_wR, hu_wN, hI_wI, hI_wR, hI_wN, hR_wI, hR_wR, hR_wN, hs]; (repeat (first | rw [if_pos (by first | omega | exact trivial | exact ⟨trivial, trivial⟩)] | rw [if_neg (by first | omega | exact not_false)]))
    · rw [o0.2.2.2, hT3]; simp only [hk_wI, hk_wR, hk_wN, hl_wI, hl_wR, hl_wN, hn_wI, hn_wR, hn_wN, hu_wI, hu_wR, hu_wN, hI_wI, hI_wR, hI_wN, hR_wI, hR_wR, hR_wN, hs]; (repeat (first | rw [if_pos (by first | omega | exact trivial | exact ⟨trivial, trivial⟩)] | rw [if_neg (by first | omega | exact not_false)]))
    · rw [o0.2.2.2, hT3]; simp only [hk_wI, hk_wR, hk_wN, hl_wI, hl_wR, hl_wN, hn_wI, hn_wR, hn_wN, hu_wI, hu_wR, hu_wN, hI_wI, hI_wR, hI_wN, hR_wI, hR_wR, hR_wN, hs]; (repeat (first | rw [if_pos (by first | omega | exact trivial | exact ⟨trivial, trivial⟩)] | rw [if_neg (by first | omega | exact not_false)]))
    · rw [o0.2.2.2, hT3]; simp only [hk_wI, hk_wR, hk_wN, hl_wI, hl_wR, hl_wN, hn_wI, hn_wR, hn_wN, hu_wI, hu_wR, hu_wN, hI_wI, hI_wR, hI_wN, hR_wI, hR_wR, hR_wN, hs]; (repeat (first | rw [if_pos (by first | omega | exact trivial | exact ⟨trivial, trivial⟩)] | rw [if_neg (by first | omega | exact not_false)]))
    · rw [o0.2.2.1, hT3]; simp only [hk_wI, hk_wR, hk_wN, hl_wI, hl_wR, hl_wN, hn_wI, hn_wR, hn_wN, hu_wI, hu_wR, hu_wN, hI_wI, hI_wR, hI_wN, hR_wI, hR_wR, hR_wN, hs]; (repeat (first | rw [if_pos (by first | omega | exact trivial | exact ⟨trivial, trivial⟩)] | rw [if_neg (by first | omega | exact not_false)]))
    · rw [o0.2.2.1, hT3]; simp only [hk_wI, hk_wR, hk_wN, hl_wI, hl_wR, hl_wN, hn_wI, hn_wR, hn_wN, hu_wI, hu_wR, hu_wN, hI_wI, hI_wR, hI_wN, hR_wI, hR_wR, hR_wN, hs]; (repeat (first | rw [if_pos (by first | omega | exact trivial | exact ⟨trivial, trivial⟩)] | rw [if_neg (by first | omega | exact not_false)]))
    · rw [o0.2.2.1, hT3]; simp only [hk_wI, hk_wR, hk_wN, hl_wI, hl_wR, hl_wN, hn_wI, hn_wR, hn_wN, hu_wI, hu_wR, hu_wN, hI_wI, hI_wR, hI_wN, hR_wI, hR_wR, hR_wN, hs]; (repeat (first | rw [if_pos (by first | omega | exact trivial | exact ⟨trivial, trivial⟩)] | rw [if_neg (by first | omega | exact not_false)]))
    · rw [o0.2.2.1, hT3]; simp only [hk_wI, hk_wR, hk_wN, hl_wI, hl_wR, hl_wN, hn_wI, hn_wR, hn_wN, hu_wI, hu_wR, hu_wN, hI_wI, hI_wR, hI_wN, hR_wI, hR_wR, hR_wN, hs]; (repeat (first | rw [if_pos (by first | omega | exact trivial | exact ⟨trivial, trivial⟩)] | rw [if_neg (by first | omega | exact not_false)]))
    · rw [o1.2.2.1, hT3]; simp only [hk_wI, hk_wR, hk_wN, hl_wI, hl_wR, hl_wN, hn_wI, hn_wR, hn_wN, hu_wI, hu_wR, hu_wN, hI_wI, hI_wR, hI_wN, hR_wI, hR_wR, hR_wN, hs]; (repeat (first | rw [if_pos (by first | omega | exact trivial | exact ⟨trivial, trivial⟩)] | rw [if_neg (by first | omega | exact not_false)]))
    · rw [o2.2.2.1, hT3]; simp only [hk_wI, hk_wR, hk_wN, hl_wI, hl_wR, hl_wN, hn_wI, hn_wR, hn_wN, hu_wI, hu_wR, hu_wN, hI_wI, hI_wR, hI_wN, hR_wI, hR_wR, hR_wN, hs]; (repeat (first | rw [if_pos (by first | omega | exact trivial | exact ⟨trivial, trivial⟩)] | rw [if_neg (by first | omega | exact not_false)]))
/-- takePorts from f into s: cells of their own -/
theorem takePorts_eq {S : AS} {s f : Nat} (hne : f ≠ s ∧ f ≠ s + 1 ∧ f ≠ s + 2 ∧ f + 1 ≠ s ∧ f + 1 ≠ s + 2 ∧ f + 2 ≠ s ∧ f + 2 ≠ s + 1) (k1 : hk S s = 5 ∧ hk S (s + 1) = 8 ∧ hk S (s + 2) = 9) (l1 : hl S (s + 1) = 16 ∧ hl S (s + 2) = 128) (r1 : hR S s 1 = some (s + 1) ∧ hR S s 2 = some (s + 2)) (k2 : hk S f = 5 ∧ hk S (f + 1) = 8 ∧ hk S (f + 2) = 9) (l2 : hl S (f + 1) = 16 ∧ hl S (f + 2) = 128) (r2 : hR S f 1 = some (f + 1) ∧ hR S f 2 = some (f + 2)) : ∃ T, f_X4_takePorts (some s) (some f) S = some ((0, 0, none), T) ∧ (hn T = hn S ∧ hu T = hu S ∧ hk T = hk S ∧ hl T = hl S ∧ hR T = hR S) ∧ (∀ x, x ≠ s → x ≠ s + 1 → x ≠ s + 2 → ∀ j, hI T x j = hI S x j) ∧ (∀ j, hI T s j = if j = 3 then hI S f 3 else if j = 4 then hI S f 4 else hI S s j) ∧ (∀ k, k < 16 → hI T (s + 1) k = hI S (f + 1) k) ∧ ∀ k, k < 128 → hI T (s + 2) k = hI S (f + 2) k := by
  obtain ⟨U, hU⟩ : ∃ U, U = wC (wC S (f + 1) (s + 1) 0 0 16) (f + 2) (s + 2) 0 0 128 := ⟨_, rfl⟩
  have uf : ∀ j, hI U f j = hI S f j := fun j => by rw [hU, hI_wC, if_neg (by omega), hI_wC, if_neg (by omega)]
  have us : ∀ j, hI U s j = hI S s j := fun j => by rw [hU, hI_wC, if_neg (by omega), hI_wC, if_neg (by omega)]
  have uo : ∀ x, x ≠ s + 1 → x ≠ s + 2 → ∀ j, hI U x j = hI S x j := fun x h1 h2 j => by rw [hU, hI_wC, if_neg (by omega), hI_wC, if_neg (by omega)]
  have kU : hk U = hk S := by rw [hU]; rfl
  refine ⟨wI (wI U s 3 (hI S f 3)) s 4 (hI S f 4), ?_, ⟨by rw [hU]; rfl, by rw [hU]; rfl, by rw [hU]; rfl, by rw [hU]; rfl, by rw [hU]; rfl⟩, fun x h0 h1 h2 j => ?_, fun j => ?_, fun k hk9 => ?_, fun k hk9 => ?_⟩
  · unfold f_X4_takePorts
    have c1 := cpy_ok (S := S) (a := f + 1) (d := s + 1) (n := 16) k2.2.1 k1.2.1 (by rw [l2.1]; omega) (by rw [l1.1]; omega)
    have c2 := cpy_ok (S := wC S (f + 1) (s + 1) 0 0 16) (a := f + 2) (d := s + 2) (n := 128) k2.2.2 k1.2.2 (by rw [hl_wC, l2.2]; omega) (by rw [hl_wC, l1.2]; omega)
    rw [gR_at k2.1, Option.bind_some, r2.1, gR_at k1.1, Option.bind_some, r1.1, show (16 : Int) = ((16 : Nat) : Int) from rfl, c1, Option.bind_some, gR_at (S := wC S (f + 1) (s + 1) 0 0 16) k2.1, Option.bind_some, hR_wC, r2.2, gR_at (S := wC S (f + 1) (s + 1) 0 0 16) k1.1, Option.bind_some, hR_wC, r1.2, show (128 : Int) = ((128 : Nat) : Int) from rfl, c2, Option.bind_some, ← hU]
    rw [gI_at (by rw [kU]; exact k2.1), Option.bind_some, uf 3, pI_at (by rw [kU]; exact k1.1), Option.bind_some, gI_at (S := wI U s 3 (hI S f 3)) (by rw [hk_wI, kU]; exact k2.1), Option.bind_some, hI_wI, if_neg (by omega), uf 4, pI_at (S := wI U s 3 (hI S f 3)) (by rw [hk_wI, kU]; exact k1.1), Option.bind_some, rV_s]
  · rw [hI_wI, if_neg (by omega), hI_wI, if_neg (by omega), uo x h1 h2]
  · rw [hI_wI, hI_wI, us]
    by_cases j4 : j = 4
    · rw [if_pos ⟨rfl, j4⟩, if_neg (by omega), if_pos j4]
    · rw [if_neg (by omega)]
      by_cases j3 : j = 3
      · rw [if_pos ⟨rfl, j3⟩, if_pos j3]
      · rw [if_neg (by omega), if_neg j3, if_neg j4]
  · rw [hI_wI, if_neg (by omega), hI_wI, if_neg (by omega), hU, hI_wC, if_neg (by omega), hI_wC, if_pos (by omega), show 0 + (k - 0) = k by omega]
  · rw [hI_wI, if_neg (by omega), hI_wI, if_neg (by omega), hU, hI_wC, if_pos (by omega), show 0 + (k - 0) = k by omega, hI_wC, if_neg (by omega)]
