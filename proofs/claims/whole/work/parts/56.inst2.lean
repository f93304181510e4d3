/-! instance: the class's call -/
variable {sh ins : Nat → Nat} {pl nt wy : Nat → Nat → Nat} {tg : Nat → Nat × Nat}
section
variable {G : Nat → Nat → Int} {S : AS}
theorem x_inst (C : Cls sh ins pl nt wy tg G S) (hs : Stt S) (gi : GI G) (hb9 : G 14 9 ≤ 1000) (x y : Int) : (¬ ((0 ≤ x ∧ x < G 14 1) ∧ 0 ≤ y ∧ y < G 14 1) → CO S (f_X5_instance (some 0) x y S) 1 0) ∧ ((0 ≤ x ∧ x < G 14 1) ∧ 0 ≤ y ∧ y < G 14 1 → (G 18 x.toNat = 64 → CO S (f_X5_instance (some 0) x y S) 2 0) ∧ (G 18 x.toNat ≠ 64 → (Rc G y.toNat x.toNat → CO S (f_X5_instance (some 0) x y S) 0 (-1)) ∧ (¬ Rc G y.toNat x.toNat → CX S (f_X5_instance (some 0) x y S) 0 (G 18 x.toNat) (isG G x.toNat y.toNat)))) := by
  have h := hs.1
  have k0 := fk_0 h
  have h39 := hs.2.1
  constructor
  · intro hq
    unfold f_X5_instance
    rw [gd_t k0]
    by_cases hx : 0 ≤ x ∧ x < G 14 1
    · rw [shellAt_t C h gi hx, cR_s, gd_t k0, shellAt_f C h (fun q => hq ⟨hx, q⟩), cR_X]
      exact CO.x (Sc.rfl' S) hs
    · rw [shellAt_f C h hx, cR_X]
      exact CO.x (Sc.rfl' S) hs
  · rintro ⟨hx, hy⟩
    obtain ⟨m, rfl⟩ : ∃ m : Nat, x = m := ⟨x.toNat, by omega⟩
    obtain ⟨w, rfl⟩ : ∃ w : Nat, y = w := ⟨y.toNat, by omega⟩
    rw [tn, tn]
    have hm : (m : Int) < G 14 1 := hx.2
    have hw : (w : Int) < G 14 1 := hy.2
    have ni := gi.ni hm
    have hd := Classical.propDecidable (Rc G w m)
    obtain ⟨S9, e9, sc9⟩ := within_eq C hs gi hm hw
    refine ⟨fun h64 => ?_, fun h64 => ⟨fun hr => ?_, fun hr => ?_⟩⟩
    · unfold f_X5_instance
      rw [gd_t k0, shellAt_t C h gi hx, cR_s, tn, gd_t k0, shellAt_t C h gi hy, cR_s, c_in C hm, Option.bind_some, c_a2 C hm, Option.bind_some, if_pos h64]
      exact CO.x (Sc.rfl' S) hs
    · unfold f_X5_instance
      rw [gd_t k0, shellAt_t C h gi hx, cR_s, tn, gd_t k0, shellAt_t C h gi hy, cR_s, tn, c_in C hm, Option.bind_some, c_a2 C hm, Option.bind_some, if_neg h64, gd_t k0, e9, cI_s, Bo_t hr, if_neg (by decide), rI_s]
      exact CO.v sc9 hs
    · have hs9 := sc9.stt hs
      have C9 := C.kp sc9.kp
      obtain ⟨S1, ins', pl', nt', wy', tg', eI, C1, al1, fr1, bd1, hh1, -⟩ := itc C9 hs9 gi hm
      have gi1 := gi.chg (m := m) hb9
      have hG : ∀ a j, a ≠ 21 → (a = 14 → j ≠ 9) → chg G m a j = G a j := fun a j z1 z2 => chg_o ⟨z1, z2⟩
      have e1 : chg G m 14 1 = G 14 1 := hG 14 1 (by omega) (by omega)
      have e18 : chg G m 18 m = G 18 m := hG 18 m (by omega) (by omega)
      have hm1 : (m : Int) < chg G m 14 1 := by rw [e1]; exact hm
      have hw1 : (w : Int) < chg G m 14 1 := by rw [e1]; exact hw
      have hmw : m ≠ w := fun q => hr (by rw [q]; exact fun P hP _ => hP)
      have epc : pc (chg G m) w = pc G w := pc_congr (PA.of (fun a j ha => hG a j (by omega) (by omega))) (gi.pw hw).1
      have pl128 := pc_le (gi.pw hw)
      obtain ⟨p, hp⟩ : ∃ p : Nat, pc G w = p := ⟨(pc G w).toNat, by omega⟩
      obtain ⟨n, hn9⟩ : ∃ n : Nat, G 18 m = n := ⟨(G 18 m).toNat, by omega⟩
      obtain ⟨b, hb⟩ : ∃ b, hn S1 = b := ⟨_, rfl⟩
      have rm9 := hs9.2.2
      have h399 := hs9.2.1
      have bdn := bd1.1
      have bdu := bd1.2
      have hb39 : 39 ≤ b := by omega
      have hbR : b + 800 ≤ CM := by have := rm9.1; omega
      have huR : hu S1 + 4000 ≤ UM := by have := rm9.2; omega
      obtain ⟨-, ss, sa, -, -⟩ := C1.mo hm1
      obtain ⟨a1, a2, a3, a4, a5, a6⟩ := sa
      obtain ⟨-, ys, -, -, -⟩ := C1.mo hw1
      have lY := ys.1
      have kY := ys.2.1.1
      obtain ⟨a, haa⟩ : ∃ a, ins' m = a := ⟨_, rfl⟩
      obtain ⟨sy, hsy⟩ : ∃ s, sh w = s := ⟨_, rfl⟩
      rw [haa] at a1 a2 a3 a4 a5
      rw [hsy] at lY kY
      have nay : sy ≠ a := fun q => by rw [q, a2.1] at kY; exact absurd kY (by decide)
      have nay2 : sy ≠ a + 2 := fun q => by rw [q, a2.2.2] at kY; exact absurd kY (by decide)
      obtain ⟨V, hV⟩ : ∃ V, V = stI (wN (wI (wN S1 8 1 1) b 0 n) 8 p p) (fl (hI (wN (wI (wN S1 8 1 1) b 0 n) 8 p p)) (b + 1) 0 p (-1)) := ⟨_, rfl⟩
      have n14 : hn (wN S1 8 1 1) = b + 1 := by rw [hn_wN, hb]
      have n16 : hn (wI (wN S1 8 1 1) b 0 n) = b + 1 := n14
      have n18 : hn (wN (wI (wN S1 8 1 1) b 0 n) 8 p p) = b + 2 := by rw [hn_wN, n16]
      have nV : hn V = b + 2 := by rw [hV]; exact n18
      have uV : hu V = hu S1 + 1 + p := by rw [hV]; rfl
      have kV : ∀ x, hk V x = if x = b + 1 then 8 else if x = b then 8 else hk S1 x := fun x => by
        rw [hV]
        show hk (wN (wI (wN S1 8 1 1) b 0 n) 8 p p) x = _
        rw [hk_wN, n16, hk_wI, hk_wN, hb]
      have lV : ∀ x, hl V x = if x = b + 1 then p else if x = b then 1 else hl S1 x := fun x => by
        rw [hV]
        show hl (wN (wI (wN S1 8 1 1) b 0 n) 8 p p) x = _
        rw [hl_wN, n16, hl_wI, hl_wN, hb]
      have rV : ∀ x j, x < b → hR V x j = hR S1 x j := fun x j hx => by
        rw [hV]
        show hR (wN (wI (wN S1 8 1 1) b 0 n) 8 p p) x j = _
        rw [hR_wN, n16, if_neg (by omega), hR_wI, hR_wN, if_neg (by omega)]
      have iV : ∀ x j, x < b → hI V x j = hI S1 x j := fun x j hx => by
        rw [hV, stI_hI]
        unfold fl
        rw [if_neg (by omega), hI_wN, if_neg (by omega), hI_wI, if_neg (by omega), hI_wN, if_neg (by omega)]
      have iVb : hI V b 0 = n := by
        rw [hV, stI_hI]
        unfold fl
        rw [if_neg (by omega), hI_wN, if_neg (by omega), hI_wI, if_pos ⟨rfl, rfl⟩]
      have iVz : ∀ q, q < p → hI V (b + 1) q = -1 := fun q hq => by
        rw [hV, stI_hI]
        unfold fl
        rw [if_pos (by omega)]
      have fV := fill_eq (S := wN (wI (wN S1 8 1 1) b 0 n) 8 p p) (a := b + 1) (n := p) (by rw [hk_wN, n16, if_pos rfl]) (by rw [hl_wN, n16, if_pos rfl]) (by omega) (-1)
      rw [← hV] at fV
      have n22 : hn (wI V sy 5 1) = b + 2 := nV
      obtain ⟨T, hT⟩ : ∃ T, T = wI (wR (wR (wR (wR (wN (wI V sy 5 1) 4 0 3) (b + 2) 0 (some sy)) (b + 2) 1 (some b)) (b + 2) 2 (some (b + 1))) (a + 2) n (some (b + 2))) a 2 ((n : Int) + 1) := ⟨_, rfl⟩
      have eT : f_X5_instance (some 0) m w S = some ((0, (n : Int), none), T) := by
        unfold f_X5_instance
        rw [gd_t k0, shellAt_t C h gi hx, cR_s, tn, gd_t k0, shellAt_t C h gi hy, cR_s, tn, c_in C hm, Option.bind_some, c_a2 C hm, Option.bind_some, if_neg h64, gd_t k0, e9, cI_s, Bo_f hr, if_pos rfl, eI, cR_s, haa]
        rw [nA_ok (by omega) (by omega) (by show hu S1 + 1 ≤ UM; omega), Option.bind_some, show (1 : Int).toNat = 1 from rfl, hb]
        rw [gI_at (S := wN S1 8 1 1) (by rw [hk_wN, if_neg (by omega)]; exact a2.1), Option.bind_some, hI_wN, if_neg (by omega), a5.1, e18, hn9]
        rw [sI_at (S := wN S1 8 1 1) (by rw [hk_wN, if_pos hb.symm]) (by omega) (by rw [hl_wN, if_pos hb.symm]; omega), Option.bind_some, show (0 : Int).toNat = 0 from rfl]
        rw [gI_at (S := wI (wN S1 8 1 1) b 0 n) (by rw [hk_wI, hk_wN, if_neg (by omega), hsy]; exact kY), Option.bind_some, hI_wI, if_neg (by omega), hI_wN, if_neg (by omega), ys.2.2.2.2.1.2.2, epc, hp]
        rw [nA_ok (by omega) (by rw [n16]; omega) (by rw [tn]; show hu S1 + 1 + p ≤ UM; omega), Option.bind_some, tn, n16, fV, cV_s]
        rw [pZ_at (S := V) (by rw [kV, if_neg (by omega), if_neg (by omega), hsy]; exact kY) (Or.inr rfl), Option.bind_some, hsy, nO_ok (by rw [n22]; omega) (by show hu V + 3 ≤ UM; rw [uV]; omega), Option.bind_some, n22, show wN (wI V sy 5 1) 4 0 (NC (4 - 1)) = wN (wI V sy 5 1) 4 0 3 from rfl]
        rw [plInit_ok (by simp only [hk_wI, hk_wR, hk_wN, hl_wI, hl_wR, hl_wN, hn_wI, hn_wR, hn_wN, hu_wI, hu_wR, hu_wN, hI_wI, hI_wR, hI_wN, hR_wI, hR_wR, hR_wN, nV]; (repeat (first | rw [if_pos (by first | omega | exact trivial | exact ⟨trivial, trivial⟩)] | rw [if_neg (by first | omega | exact not_false)]))), cN_s, isK_at (by simp only [hk_wI, hk_wR, hk_wN, hl_wI, hl_wR, hl_wN, hn_wI, hn_wR, hn_wN, hu_wI, hu_wR, hu_wN, hI_wI, hI_wR, hI_wN, hR_wI, hR_wR, hR_wN, nV, kV]; (repeat (first | rw [if_pos (by first | omega | exact trivial | exact ⟨trivial, trivial⟩)] | rw [if_neg (by first | omega | exact not_false)])); exact a2.1), gd_1]
        rw [addPl_ok (k := n) (by simp only [hk_wI, hk_wR, hk_wN, hl_wI, hl_wR, hl_wN, hn_wI, hn_wR, hn_wN, hu_wI, hu_wR, hu_wN, hI_wI, hI_wR, hI_wN, hR_wI, hR_wR, hR_wN, nV, kV]; (repeat (first | rw [if_pos (by first | omega | exact trivial | exact ⟨trivial, trivial⟩)] | rw [if_neg (by first | omega | exact not_false)])); exact a2.1) (by simp only [hk_wI, hk_wR, hk_wN, hl_wI, hl_wR, hl_wN, hn_wI, hn_wR, hn_wN, hu_wI, hu_wR, hu_wN, hI_wI, hI_wR, hI_wN, hR_wI, hR_wR, hR_wN, nV]; (repeat (first | rw [if_pos (by first | omega | exact trivial | exact ⟨trivial, trivial⟩)] | rw [if_neg (by first | omega | exact not_false)])); rw [rV _ _ (by omega)]; exact a4.2) (by simp only [hk_wI, hk_wR, hk_wN, hl_wI, hl_wR, hl_wN, hn_wI, hn_wR, hn_wN, hu_wI, hu_wR, hu_wN, hI_wI, hI_wR, hI_wN, hR_wI, hR_wR, hR_wN, nV, kV]; (repeat (first | rw [if_pos (by first | omega | exact trivial | exact ⟨trivial, trivial⟩)] | rw [if_neg (by first | omega | exact not_false)])); exact a2.2.2) (by simp only [hk_wI, hk_wR, hk_wN, hl_wI, hl_wR, hl_wN, hn_wI, hn_wR, hn_wN, hu_wI, hu_wR, hu_wN, hI_wI, hI_wR, hI_wN, hR_wI, hR_wR, hR_wN, nV, lV]; (repeat (first | rw [if_pos (by first | omega | exact trivial | exact ⟨trivial, trivial⟩)] | rw [if_neg (by first | omega | exact not_false)])); exact a3.2) (by simp only [hk_wI, hk_wR, hk_wN, hl_wI, hl_wR, hl_wN, hn_wI, hn_wR, hn_wN, hu_wI, hu_wR, hu_wN, hI_wI, hI_wR, hI_wN, hR_wI, hR_wR, hR_wN, nV]; (repeat (first | rw [if_pos (by first | omega | exact trivial | exact ⟨trivial, trivial⟩)] | rw [if_neg (by first | omega | exact not_false)])); rw [iV _ _ (by omega), a5.1, e18, hn9]) (by omega) (by simp only [hk_wI, hk_wR, hk_wN, hl_wI, hl_wR, hl_wN, hn_wI, hn_wR, hn_wN, hu_wI, hu_wR, hu_wN, hI_wI, hI_wR, hI_wN, hR_wI, hR_wR, hR_wN, nV]; (repeat (first | rw [if_pos (by first | omega | exact trivial | exact ⟨trivial, trivial⟩)] | rw [if_neg (by first | omega | exact not_false)]))), cI_s, rI_s, hT]
      have od : ∀ x, x < b → x ≠ a → x ≠ a + 2 → x ≠ sy → Od x S1 T := fun x h1 h2 h3 h4 => by
        have o1 : Od x S1 V := ⟨by rw [kV, if_neg (by omega), if_neg (by omega)], by rw [lV, if_neg (by omega), if_neg (by omega)], fun j => iV x j h1, fun j => rV x j h1⟩
        rw [hT]
        exact ((((((o1.tr (Od.w h4)).tr (Od.n (by rw [n22]; omega))).tr (Od.r (by omega))).tr (Od.r (by omega))).tr (Od.r (by omega))).tr (Od.r h3)).tr (Od.w h2)
      have e14 : chg G m 18 m ≠ 64 := by rw [e18]; exact h64
      obtain ⟨pl2, nt2, wy2, tg2, C2⟩ := Cls.inst C1 gi1 hm1 hw1 e14 hmw (fun j hj hne => al1 j (by rw [e1] at hj; exact hj) hne) (T := T) hb hb39 (by rw [hT]; simp only [hk_wI, hk_wR, hk_wN, hl_wI, hl_wR, hl_wN, hn_wI, hn_wR, hn_wN, hu_wI, hu_wR, hu_wN, hI_wI, hI_wR, hI_wN, hR_wI, hR_wR, hR_wN, nV]) (by rw [haa, hsy]; exact od)
        (by
          rw [hsy]
          refine ⟨?_, fun j hj => ?_, fun j => ?_⟩
          · rw [hT]; simp only [hk_wI, hk_wR, hk_wN, hl_wI, hl_wR, hl_wN, hn_wI, hn_wR, hn_wN, hu_wI, hu_wR, hu_wN, hI_wI, hI_wR, hI_wN, hR_wI, hR_wR, hR_wN, nV, kV]; (repeat (first | rw [if_pos (by first | omega | exact trivial | exact ⟨trivial, trivial⟩)] | rw [if_neg (by first | omega | exact not_false)]))
          · rw [hT]; simp only [hk_wI, hk_wR, hk_wN, hl_wI, hl_wR, hl_wN, hn_wI, hn_wR, hn_wN, hu_wI, hu_wR, hu_wN, hI_wI, hI_wR, hI_wN, hR_wI, hR_wR, hR_wN, nV]; (repeat (first | rw [if_pos (by first | omega | exact trivial | exact ⟨trivial, trivial⟩)] | rw [if_neg (by first | omega | exact not_false)])); exact iV _ _ (by omega)
          · rw [hT]; simp only [hk_wI, hk_wR, hk_wN, hl_wI, hl_wR, hl_wN, hn_wI, hn_wR, hn_wN, hu_wI, hu_wR, hu_wN, hI_wI, hI_wR, hI_wN, hR_wI, hR_wR, hR_wN, nV]; (repeat (first | rw [if_pos (by first | omega | exact trivial | exact ⟨trivial, trivial⟩)] | rw [if_neg (by first | omega | exact not_false)])); exact rV _ _ (by omega))
        (by rw [hsy, hT]; simp only [hk_wI, hk_wR, hk_wN, hl_wI, hl_wR, hl_wN, hn_wI, hn_wR, hn_wN, hu_wI, hu_wR, hu_wN, hI_wI, hI_wR, hI_wN, hR_wI, hR_wR, hR_wN, nV]; (repeat (first | rw [if_pos (by first | omega | exact trivial | exact ⟨trivial, trivial⟩)] | rw [if_neg (by first | omega | exact not_false)])))
        (by
          rw [haa]
          refine ⟨?_, fun j hj => ?_, fun j => ?_⟩
          · rw [hT]; simp only [hk_wI, hk_wR, hk_wN, hl_wI, hl_wR, hl_wN, hn_wI, hn_wR, hn_wN, hu_wI, hu_wR, hu_wN, hI_wI, hI_wR, hI_wN, hR_wI, hR_wR, hR_wN, nV, kV]; (repeat (first | rw [if_pos (by first | omega | exact trivial | exact ⟨trivial, trivial⟩)] | rw [if_neg (by first | omega | exact not_false)]))
          · rw [hT]; simp only [hk_wI, hk_wR, hk_wN, hl_wI, hl_wR, hl_wN, hn_wI, hn_wR, hn_wN, hu_wI, hu_wR, hu_wN, hI_wI, hI_wR, hI_wN, hR_wI, hR_wR, hR_wN, nV]; (repeat (first | rw [if_pos (by first | omega | exact trivial | exact ⟨trivial, trivial⟩)] | rw [if_neg (by first | omega | exact not_false)])); exact iV _ _ (by omega)
          · rw [hT]; simp only [hk_wI, hk_wR, hk_wN, hl_wI, hl_wR, hl_wN, hn_wI, hn_wR, hn_wN, hu_wI, hu_wR, hu_wN, hI_wI, hI_wR, hI_wN, hR_wI, hR_wR, hR_wN, nV]; (repeat (first | rw [if_pos (by first | omega | exact trivial | exact ⟨trivial, trivial⟩)] | rw [if_neg (by first | omega | exact not_false)])); exact rV _ _ (by omega))
        (by rw [haa, hT, hI_w0, e18, hn9])
        (by
          rw [haa, e18, hn9, tn]
          refine ⟨?_, ?_, fun j => ?_⟩
          · rw [hT]; simp only [hk_wI, hk_wR, hk_wN, hl_wI, hl_wR, hl_wN, hn_wI, hn_wR, hn_wN, hu_wI, hu_wR, hu_wN, hI_wI, hI_wR, hI_wN, hR_wI, hR_wR, hR_wN, nV, kV]; (repeat (first | rw [if_pos (by first | omega | exact trivial | exact ⟨trivial, trivial⟩)] | rw [if_neg (by first | omega | exact not_false)]))
          · rw [hT]; simp only [hk_wI, hk_wR, hk_wN, hl_wI, hl_wR, hl_wN, hn_wI, hn_wR, hn_wN, hu_wI, hu_wR, hu_wN, hI_wI, hI_wR, hI_wN, hR_wI, hR_wR, hR_wN, nV, lV]; (repeat (first | rw [if_pos (by first | omega | exact trivial | exact ⟨trivial, trivial⟩)] | rw [if_neg (by first | omega | exact not_false)]))
          · rw [hT]; simp only [hk_wI, hk_wR, hk_wN, hl_wI, hl_wR, hl_wN, hn_wI, hn_wR, hn_wN, hu_wI, hu_wR, hu_wN, hI_wI, hI_wR, hI_wN, hR_wI, hR_wR, hR_wN, nV]
            by_cases c : j = n
            · rw [if_pos ⟨trivial, c⟩, if_pos c]
            · rw [if_neg (by omega), if_neg (by omega), if_neg (by omega), if_neg (by omega), if_neg (by omega), if_neg c]; exact rV _ _ (by omega))
        (by
          rw [e18, hn9]
          refine ⟨?_, ?_, ?_⟩
          · rw [hT]; simp only [hk_wI, hk_wR, hk_wN, hl_wI, hl_wR, hl_wN, hn_wI, hn_wR, hn_wN, hu_wI, hu_wR, hu_wN, hI_wI, hI_wR, hI_wN, hR_wI, hR_wR, hR_wN, nV, kV]; (repeat (first | rw [if_pos (by first | omega | exact trivial | exact ⟨trivial, trivial⟩)] | rw [if_neg (by first | omega | exact not_false)]))
          · rw [hT]; simp only [hk_wI, hk_wR, hk_wN, hl_wI, hl_wR, hl_wN, hn_wI, hn_wR, hn_wN, hu_wI, hu_wR, hu_wN, hI_wI, hI_wR, hI_wN, hR_wI, hR_wR, hR_wN, nV, lV]; (repeat (first | rw [if_pos (by first | omega | exact trivial | exact ⟨trivial, trivial⟩)] | rw [if_neg (by first | omega | exact not_false)]))
          · rw [hT]; simp only [hk_wI, hk_wR, hk_wN, hl_wI, hl_wR, hl_wN, hn_wI, hn_wR, hn_wN, hu_wI, hu_wR, hu_wN, hI_wI, hI_wR, hI_wN, hR_wI, hR_wR, hR_wN, nV]; (repeat (first | rw [if_pos (by first | omega | exact trivial | exact ⟨trivial, trivial⟩)] | rw [if_neg (by first | omega | exact not_false)])); exact iVb)
        (by
          rw [epc, hp]
          refine ⟨?_, ?_, fun q hq => ?_⟩
          · rw [hT]; simp only [hk_wI, hk_wR, hk_wN, hl_wI, hl_wR, hl_wN, hn_wI, hn_wR, hn_wN, hu_wI, hu_wR, hu_wN, hI_wI, hI_wR, hI_wN, hR_wI, hR_wR, hR_wN, nV, kV]; (repeat (first | rw [if_pos (by first | omega | exact trivial | exact ⟨trivial, trivial⟩)] | rw [if_neg (by first | omega | exact not_false)]))
          · rw [hT]; simp only [hk_wI, hk_wR, hk_wN, hl_wI, hl_wR, hl_wN, hn_wI, hn_wR, hn_wN, hu_wI, hu_wR, hu_wN, hI_wI, hI_wR, hI_wN, hR_wI, hR_wR, hR_wN, nV, lV]; (repeat (first | rw [if_pos (by first | omega | exact trivial | exact ⟨trivial, trivial⟩)] | rw [if_neg (by first | omega | exact not_false)]))
          · rw [hT]; simp only [hk_wI, hk_wR, hk_wN, hl_wI, hl_wR, hl_wN, hn_wI, hn_wR, hn_wN, hu_wI, hu_wR, hu_wN, hI_wI, hI_wR, hI_wN, hR_wI, hR_wR, hR_wN, nV]; (repeat (first | rw [if_pos (by first | omega | exact trivial | exact ⟨trivial, trivial⟩)] | rw [if_neg (by first | omega | exact not_false)])); exact iVz q (by omega))
        (by
          rw [hsy]
          refine ⟨?_, ?_, ?_, ?_⟩
          · rw [hT]; simp only [hk_wI, hk_wR, hk_wN, hl_wI, hl_wR, hl_wN, hn_wI, hn_wR, hn_wN, hu_wI, hu_wR, hu_wN, hI_wI, hI_wR, hI_wN, hR_wI, hR_wR, hR_wN, nV]; (repeat (first | rw [if_pos (by first | omega | exact trivial | exact ⟨trivial, trivial⟩)] | rw [if_neg (by first | omega | exact not_false)]))
          · rw [hT]; simp only [hk_wI, hk_wR, hk_wN, hl_wI, hl_wR, hl_wN, hn_wI, hn_wR, hn_wN, hu_wI, hu_wR, hu_wN, hI_wI, hI_wR, hI_wN, hR_wI, hR_wR, hR_wN, nV]; (repeat (first | rw [if_pos (by first | omega | exact trivial | exact ⟨trivial, trivial⟩)] | rw [if_neg (by first | omega | exact not_false)]))
          · rw [hT]; simp only [hk_wI, hk_wR, hk_wN, hl_wI, hl_wR, hl_wN, hn_wI, hn_wR, hn_wN, hu_wI, hu_wR, hu_wN, hI_wI, hI_wR, hI_wN, hR_wI, hR_wR, hR_wN, nV]; (repeat (first | rw [if_pos (by first | omega | exact trivial | exact ⟨trivial, trivial⟩)] | rw [if_neg (by first | omega | exact not_false)]))
          · rw [hT]; simp only [hk_wI, hk_wR, hk_wN, hl_wI, hl_wR, hl_wN, hn_wI, hn_wR, hn_wN, hu_wI, hu_wR, hu_wN, hI_wI, hI_wR, hI_wN, hR_wI, hR_wR, hR_wN, nV]; (repeat (first | rw [if_pos (by first | omega | exact trivial | exact ⟨trivial, trivial⟩)] | rw [if_neg (by first | omega | exact not_false)])))
      rw [← isG_eq] at C2
      have nT : hn T = b + 3 := by rw [hT]; simp only [hk_wI, hk_wR, hk_wN, hl_wI, hl_wR, hl_wN, hn_wI, hn_wR, hn_wN, hu_wI, hu_wR, hu_wN, hI_wI, hI_wR, hI_wN, hR_wI, hR_wR, hR_wN, nV]
      have uT : hu T = hu V + 3 := by rw [hT]; rfl
      refine ⟨T, sh, ins', pl2, nt2, wy2, tg2, by rw [hn9]; exact eT, C2, ⟨fun c j h1 h2 => ?_, ?_⟩, ⟨?_, ?_⟩, ?_⟩
      · rw [(od c (by omega) (by omega) (by omega) (by omega)).2.2.1, fr1.1 c j h1 h2]
        exact sc9.2.2.2.1 c j (by omega)
      · refine ⟨fun c hc => ?_, fun r hr => ?_⟩
        · have o := od c (by omega) (by omega) (by omega) (by omega)
          rw [o.1, o.2.1]; exact fr1.2.1 c hc
        · have : ∀ r ∈ rT, r.1 < 39 := by decide
          have := this r hr
          rw [(od r.1 (by omega) (by omega) (by omega) (by omega)).2.2.2]
          exact fr1.2.2 r hr
      · rw [nT]; rw [sc9.1.1] at bdn; omega
      · rw [uT, uV]; rw [sc9.1.2] at bdu; omega
      · rw [nT]; rw [sc9.1.1] at hh1; omega
end
