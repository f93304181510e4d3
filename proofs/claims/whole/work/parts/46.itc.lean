/-! insideToChange -/
variable {sh ins : Nat → Nat} {pl nt wy : Nat → Nat → Nat} {tg : Nat → Nat × Nat}
section
variable {G : Nat → Nat → Int} {S : AS}
theorem Cls.mo (C : Cls sh ins pl nt wy tg G S) {i : Nat} (hi : (i : Int) < G 14 1) : MoF sh ins pl nt wy tg G S i := C.2.1 i hi
theorem Cls.inj (C : Cls sh ins pl nt wy tg G S) {i j : Nat} (hi : (i : Int) < G 14 1) (hj : (j : Int) < G 14 1) (h : sh i = sh j) : i = j := by
  have e1 := (C.at hi).2.2.2.2.1.1
  have e2 := (C.at hj).2.2.2.2.1.1
  rw [h, e2] at e1
  omega
theorem chg_al {m : Nat} (h : al G m (G 14 1).toNat = true) : chg G m = G := if_pos h
theorem chg_sh {m : Nat} (h : ¬ al G m (G 14 1).toNat = true) : chg G m = uq (uq G 14 9 (G 14 9 + 1)) 21 m (G 14 9 + 1) := if_neg h
theorem PA.of {G G' : Nat → Nat → Int} {x : Nat} (h : ∀ a j, a = 15 ∨ a = 16 ∨ a = 17 → G' a j = G a j) : PA G G' x := ⟨h 15 _ (by omega), fun k _ => ⟨h 16 _ (by omega), h 17 _ (by omega)⟩⟩
theorem GA.of {G G' : Nat → Nat → Int} {i : Nat} (h : ∀ a j, a ≠ 21 → a ≠ 14 → G' a j = G a j) : GA G G' i := ⟨PA.of (fun a j ha => h a j (by omega) (by omega)), ⟨h _ _ (by omega) (by omega), h _ _ (by omega) (by omega)⟩, fun q _ => h _ _ (by omega) (by omega), fun k _ => ⟨h _ _ (by omega) (by omega), h _ _ (by omega) (by omega), fun t _ => h _ _ (by omega) (by omega), fun q _ => h _ _ (by omega) (by omega), PA.of (fun a j ha => h a j (by omega) (by omega))⟩⟩
theorem used_congr {G G' : Nat → Nat → Int} (h1 : G' 14 1 = G 14 1) (h : ∀ j k : Nat, (j : Int) < G 14 1 → (k : Int) < G 18 j → fo G' j k = fo G j k) (h18 : ∀ j : Nat, (j : Int) < G 14 1 → G' 18 j = G 18 j) (m : Nat) : used G' m ↔ used G m := by
  constructor
  · rintro ⟨j, k, a, b, c⟩
    rw [h1] at a
    rw [h18 j a] at b
    exact ⟨j, k, a, b, (h j k a b).symm.trans c⟩
  · rintro ⟨j, k, a, b, c⟩
    exact ⟨j, k, by rw [h1]; exact a, by rw [h18 j a]; exact b, (h j k a b).trans c⟩
theorem twS_of (C : Cls sh ins pl nt wy tg G S) (gi : GI G) {m : Nat} (hm : (m : Int) < G 14 1) : TwS S (ins m) (G 18 m).toNat (pl (ins m)) (nt (ins m)) := by
  obtain ⟨b1, b2, b3, b4, b5, b6⟩ := C.ia hm
  have ni := gi.ni hm
  refine ⟨⟨b1.2, by omega⟩, b2, b3, b4, by rw [b5.1]; omega, fun t ht => ?_⟩
  obtain ⟨p1, p2, p3, p4, p5, p6, p7⟩ := C.pa hm (k := t) (by omega)
  have := pc_le (gi.pw (gi.fv hm (k := t) (by omega)).2)
  exact ⟨p1, ⟨p2.2.1, p2.2.2⟩, p3.2.2, ⟨p4.2.1, p4.2.2.1, by omega⟩⟩
/-- an Inside's count of sharers may be written -/
theorem twS_w4 {n a c : Nat} {p z : Nat → Nat} (h : TwS S a n p z) (v : Int) (hc : hk S c = 1) : TwS (wI S c 4 v) a n p z := by
  obtain ⟨h1, h2, h3, h4, h5, h6⟩ := h
  exact ⟨h1, h2, h3, h4, by rw [hI_wI, if_neg (by omega)]; exact h5, h6⟩
theorem itc (C : Cls sh ins pl nt wy tg G S) (hs : Stt S) (gi : GI G) {m : Nat} (hm : (m : Int) < G 14 1) : ∃ (S' : AS) (ins' : Nat → Nat) (pl' nt' wy' : Nat → Nat → Nat) (tg' : Nat → Nat × Nat), f_X5_insideToChange (some (sh m)) S = some ((0, 0, some (ins' m)), S') ∧ Cls sh ins' pl' nt' wy' tg' (chg G m) S' ∧ (∀ j : Nat, (j : Int) < G 14 1 → j ≠ m → ins' j ≠ ins' m) ∧ Fr S S' ∧ Bd 131 8581 S S' ∧ hn S ≤ hn S' ∧ (hI S' 0 = hI S 0) := by
  have h39 := hs.2.1
  have a4 := c_a4 C hm
  by_cases ca : al G m (G 14 1).toNat = true
  · have c1 := (cJ_alone hm).mpr ca
    refine ⟨S, ins, pl, nt, wy, tg, ?_, by rw [chg_al ca]; exact C, fun j hj hne q => ?_, ⟨fun _ _ _ _ => rfl, hs.1⟩, ⟨by omega, by omega⟩, Nat.le_refl _, rfl⟩
    · unfold f_X5_insideToChange
      rw [c_in C hm, Option.bind_some, a4, Option.bind_some, if_pos (by omega), Option.bind_some, rR_s]
    · have e := (C.2.2 j m hj hm).mp q
      rcases (al_iff _).mp ca j (by omega) with z | z
      · exact hne z
      · exact z e
  · have c1 : ¬ cJ G m ≤ 1 := fun q => ca ((cJ_alone hm).mp q)
    obtain ⟨b, hb⟩ : ∃ b, hn S = b := ⟨_, rfl⟩
    obtain ⟨⟨m1, m2⟩, ms, ma, mt, mp⟩ := C.mo hm
    have ni := gi.ni hm
    have rm := hs.2.2
    have kA := ma.2.1.1
    have kS := ms.2.1.1
    obtain ⟨T, eT, i3, tf⟩ := twin_eq (S := wI S (ins m) 4 ((cJ G m : Int) - 1)) (twS_w4 (twS_of C gi hm) _ kA) (by rw [hn_wI]; have := rm.1; omega) (by rw [hu_wI]; have := rm.2; omega)
    rw [hn_wI, hb] at eT i3 tf
    obtain ⟨⟨t1, t1'⟩, t2, t3, t4, t5, t6, t7, t8⟩ := tf
    have lsm : sh m < b := by have := ms.1.2; omega
    have lam : ins m + 2 < b := by have := ma.1.2; omega
    -- cells that are neither the shell nor its inside stay
    have ox : ∀ x, x < b → x ≠ ins m → x ≠ sh m → Od x S (wR T (sh m) 6 (some b)) := fun x h1 h2 h3 => ((Od.w h2).tr (t2 x h1)).tr (Od.r h3)
    have okd : ∀ x, x < b → hk S x ≠ 1 → hk S x ≠ 5 → Od x S (wR T (sh m) 6 (some b)) := fun x h1 h2 h3 => ox x h1 (fun q => h2 (by rw [q]; exact kA)) (fun q => h3 (by rw [q]; exact kS))
    have hG : ∀ a j, a ≠ 21 → (a = 14 → j ≠ 9) → chg G m a j = G a j := fun a j h1 h2 => chg_o ⟨h1, h2⟩
    have h141 : chg G m 14 1 = G 14 1 := hG 14 1 (by omega) (by omega)
    have h9 : ∀ i : Nat, (i : Int) < G 14 1 → G 21 i ≤ G 14 9 := fun i hi => (gi.at hi).2.2.2.2.2.2.2
    have G21 : ∀ i, chg G m 21 i = if i = m then G 14 9 + 1 else G 21 i := fun i => by
      rw [chg_sh ca]
      by_cases c : i = m
      · rw [if_pos c, c, uq_at]
      · rw [if_neg c, uq_ne (by omega), uq_ne (by omega)]
    have pa : ∀ x, PA G (chg G m) x := fun x => PA.of (fun a j ha => hG a j (by omega) (by omega))
    have efo : ∀ i k, fo (chg G m) i k = fo G i k := fun i k => by unfold fo; rw [hG 19 _ (by omega) (by omega)]
    have us : ∀ i, used (chg G m) i ↔ used G i := fun i => used_congr h141 (fun j k _ _ => efo j k) (fun j _ => hG 18 _ (by omega) (by omega)) i
    have cJm : cJ (chg G m) m = 1 := by
      unfold cJ
      rw [h141]
      have u := cnt_upd (f := fun j => decide (chg G m 21 j = chg G m 21 m)) (g := fun _ => false) (m := m)
      have z : ∀ n, cnt (fun _ => false) n = 0 := by
        intro n
        induction n with
        | zero => rfl
        | succ n ih => rw [cnt_s, ih]; rfl
      have e : cnt (fun j => decide (chg G m 21 j = chg G m 21 m)) (G 14 1).toNat = cnt (fun j => decide (j = m)) (G 14 1).toNat := cnt_congr _ (fun k hk => by
        rw [G21 k, G21 m, if_pos rfl]
        by_cases c : k = m
        · simp [c]
        · rw [if_neg c]
          have := h9 k (by omega)
          have : ¬ (G 21 k = G 14 9 + 1) := by omega
          simp [c, this])
      rw [e]
      have u2 := cnt_upd (f := fun j => decide (j = m)) (g := fun _ => false) (m := m) (fun k hk => by simp [hk]) (G 14 1).toNat
      rw [z] at u2
      have hm' : m < (G 14 1).toNat := by omega
      simp [hm'] at u2
      exact u2
    have cJo : ∀ i : Nat, (i : Int) < G 14 1 → i ≠ m → (cJ (chg G m) i : Int) = if ins i = ins m then (cJ G m : Int) - 1 else cJ G i := by
      intro i hi hne
      unfold cJ
      rw [h141]
      have u := cnt_upd (f := fun j => decide (chg G m 21 j = chg G m 21 i)) (g := fun j => decide (G 21 j = G 21 i)) (m := m) (fun k hk => by rw [G21 k, G21 i, if_neg hk, if_neg hne]) (G 14 1).toNat
      have f1 : decide (chg G m 21 m = chg G m 21 i) = false := by
        rw [G21 m, G21 i, if_pos rfl, if_neg hne]
        have := h9 i hi
        have : ¬ (G 14 9 + 1 = G 21 i) := by omega
        simp [this]
      rw [f1] at u
      have hm' : m < (G 14 1).toNat := by omega
      have sym := C.2.2 i m hi hm
      by_cases c : G 21 i = G 21 m
      · rw [if_pos (sym.mpr c)]
        simp [hm', c] at u
        have e : cnt (fun j => decide (chg G m 21 j = chg G m 21 i)) (G 14 1).toNat + 1 = cnt (fun j => decide (G 21 j = G 21 m)) (G 14 1).toNat := by
          rw [← u]
        omega
      · rw [if_neg (fun q => c (sym.mp q))]
        have c' : ¬ (G 21 m = G 21 i) := fun q => c q.symm
        simp [hm', c'] at u
        rw [u]
    obtain ⟨ins', hins⟩ : ∃ f : Nat → Nat, ∀ j, f j = if j = m then b else ins j := ⟨_, fun _ => rfl⟩
    obtain ⟨pl', hpl⟩ : ∃ f : Nat → Nat → Nat, ∀ a k, f a k = if a = b then b + 3 + 2 * k else pl a k := ⟨_, fun _ _ => rfl⟩
    obtain ⟨nt', hnt⟩ : ∃ f : Nat → Nat → Nat, ∀ a k, f a k = if a = b then b + 4 + 2 * k else nt a k := ⟨_, fun _ _ => rfl⟩
    obtain ⟨wy', hwy⟩ : ∃ f : Nat → Nat → Nat, ∀ a k, f a k = if a = b then wy (ins m) k else wy a k := ⟨_, fun _ _ => rfl⟩
    obtain ⟨tg', htg⟩ : ∃ f : Nat → Nat × Nat, ∀ x, f x = if x < b then tg x else if x = b + 1 then (b, 0) else (b, (x - (b + 4)) / 2 + 1) := ⟨_, fun _ => rfl⟩
    have emb : ins' m = b := by rw [hins, if_pos rfl]
    refine ⟨wR T (sh m) 6 (some b), ins', pl', nt', wy', tg', ?_, ⟨?_, fun i hi => ?_, fun i j hi hj => ?_⟩, ?_, ⟨?_, ?_⟩, ⟨?_, ?_⟩, ?_, ?_⟩
    · unfold f_X5_insideToChange
      have kS7 : hk (wI S (ins m) 4 ((cJ G m : Int) - 1)) (sh m) = 5 := kS
      have kST : hk T (sh m) = 5 := (t2 (sh m) lsm).1.trans kS7
      rw [c_in C hm, Option.bind_some, a4, Option.bind_some, if_neg (by omega), Option.bind_some, a4, Option.bind_some, chk_ok (by have := cnt_le (fun j => decide (G 21 j = G 21 m)) (G 14 1).toNat; have : cJ G m ≤ (G 14 1).toNat := this; have := gi.1; omega) (by have := cnt_le (fun j => decide (G 21 j = G 21 m)) (G 14 1).toNat; have : cJ G m ≤ (G 14 1).toNat := this; have := gi.1; omega), Option.bind_some, pI_at kA, Option.bind_some, gR_at kS7, Option.bind_some]
      rw [show hR (wI S (ins m) 4 ((cJ G m : Int) - 1)) (sh m) 6 = some (ins m) from m2, isK_at (show hk (wI S (ins m) 4 ((cJ G m : Int) - 1)) (ins m) = 1 from kA), gd_1, eT, cR_s, pR_at kST, Option.bind_some, gR_at (S := wR T (sh m) 6 (some b)) kST, Option.bind_some, hR_wR, if_pos ⟨rfl, rfl⟩, rR_s, emb]
    · rw [h141]
      show hI T 0 1 = G 14 1
      rw [(t2 0 (by omega)).2.2.1, hI_wI, if_neg (by omega)]
      exact C.1
    · rw [h141] at hi
      show MoF sh ins' pl' nt' wy' tg' (chg G m) (wR T (sh m) 6 (some b)) i
      by_cases hc : i = m
      · subst hc
        have osm := t2 (sh i) lsm
        have := ma.1.1
        obtain ⟨s1, s2, s3, s4, s5, s6, s7, s8⟩ := ms
        have o1 := okd (sh i + 1) (by omega) (by rw [s2.2.1]; decide) (by rw [s2.2.1]; decide)
        have o2 := okd (sh i + 2) (by omega) (by rw [s2.2.2]; decide) (by rw [s2.2.2]; decide)
        have eI : ∀ j, hI (wR T (sh i) 6 (some b)) (sh i) j = hI S (sh i) j := fun j => by
          rw [hI_wR, osm.2.2.1, hI_wI, if_neg (fun q => by have := q.1; rw [this] at kS; rw [kA] at kS; exact absurd kS (by decide))]
        have eR : ∀ j, j ≠ 6 → hR (wR T (sh i) 6 (some b)) (sh i) j = hR S (sh i) j := fun j hj => by rw [hR_wR, if_neg (by omega), osm.2.2.2]; rfl
        have w := gi.pw hi
        refine ⟨⟨?_, ?_⟩, ⟨⟨s1.1, ?_⟩, ⟨?_, ?_, ?_⟩, ⟨?_, ?_⟩, ⟨?_, ?_⟩, ⟨?_, ?_, ?_⟩, ?_, fun k hk => ?_, fun q hq => ?_⟩, ?_, ⟨?_, ?_⟩, fun k hk => ?_⟩
        · rw [(ox 1 (by omega) (by omega) (by omega)).2.2.2]; exact m1
        · rw [hR_wR, if_pos ⟨rfl, rfl⟩, emb]
        · show sh i + 2 < hn T; omega
        · show hk T (sh i) = 5; rw [osm.1]; exact kS
        · rw [o1.1]; exact s2.2.1
        · rw [o2.1]; exact s2.2.2
        · rw [o1.2.1]; exact s3.1
        · rw [o2.2.1]; exact s3.2
        · rw [eR 1 (by omega)]; exact s4.1
        · rw [eR 2 (by omega)]; exact s4.2
        · rw [eI]; exact s5.1
        · rw [eI, (pa i).1]; exact s5.2.1
        · rw [eI, pc_congr (pa i) w.1]; exact s5.2.2
        · rw [eI, us]; exact s6
        · rw [o1.2.2.1, s7 k hk, (pa i).1]
          by_cases c : (k : Int) < G 15 i
          · rw [if_pos c, if_pos c, ((pa i).2 k c).1]
          · rw [if_neg c, if_neg c]
        · rw [pc_congr (pa i) w.1] at hq
          rw [o2.2.2.1, s8 q hq, ob_congr (pa i) w.1]
        · rw [emb]
          have ob : Od b T (wR T (sh i) 6 (some b)) := Od.r (by omega)
          have ob1 : Od (b + 1) T (wR T (sh i) 6 (some b)) := Od.r (by omega)
          have ob2 : Od (b + 2) T (wR T (sh i) 6 (some b)) := Od.r (by omega)
          refine ⟨⟨by omega, by show b + 2 < hn T; omega⟩, by rw [ob.1, ob1.1, ob2.1]; exact t3, by rw [ob1.2.1, ob2.2.1]; exact t4, by simp only [ob.2.2.2]; exact t5, ⟨?_, ?_, ?_⟩, fun q hq => ?_⟩
          · rw [ob.2.2.1, t6.1, hG 18 _ (by omega) (by omega)]; omega
          · rw [ob.2.2.1, i3, hI_wI, if_neg (by omega), hG 20 _ (by omega) (by omega)]; exact ma.2.2.2.2.1.2.1
          · rw [ob.2.2.1, t6.2, cJm]; rfl
          · rw [ob1.2.2.1, t7 q hq, hI_wI, if_neg (by omega), hG 22 _ (by omega) (by omega)]; exact ma.2.2.2.2.2 q hq
        · rw [htg, if_pos (by omega)]; exact mt.1
        · rw [emb, htg, if_neg (by omega), if_pos rfl]
        · rw [hG 18 _ (by omega) (by omega)] at hk
          rw [emb, hpl, hnt, hwy, if_pos rfl, if_pos rfl, if_pos rfl]
          obtain ⟨⟨p1, p2, p3, p4, p5, p6, p7⟩, tg1, tg2⟩ := mp k hk
          obtain ⟨u1, u2, u3, u4, u5⟩ := t8 k (by omega)
          have lf := (gi.fv hi hk).2
          have wf := gi.pw lf
          have op : Od (b + 3 + 2 * k) T (wR T (sh i) 6 (some b)) := Od.r (by omega)
          have oz : Od (b + 4 + 2 * k) T (wR T (sh i) 6 (some b)) := Od.r (by omega)
          have ow := okd (wy (ins i) k) (by omega) (by rw [p5.2.2]; decide) (by rw [p5.2.2]; decide)
          refine ⟨⟨?_, ⟨by omega, by show _ < hn T; omega, by rw [op.1]; exact u2⟩, ⟨?_, ?_, ?_⟩, ⟨by omega, by show _ < hn T; omega, by rw [oz.1]; exact u4.1, ?_⟩, ⟨p5.1, by show _ < hn T; omega, by rw [ow.1]; exact p5.2.2⟩, fun q hq => ?_, ?_⟩, ?_, ?_⟩
          · rw [hR_wR, if_neg (by omega)]; exact u1
          · rw [op.2.2.2, u3.1, efo]; exact p3.1
          · rw [op.2.2.2, u3.2.1]; exact p3.2.1
          · rw [op.2.2.2, u3.2.2]
          · rw [oz.2.1, u4.2, efo, pc_congr (pa _) wf.1]; exact p4.2.2.2
          · rw [efo, pc_congr (pa _) wf.1] at hq
            rw [oz.2.2.1, u5, hI_wI, if_neg (fun q => by have := q.1; rw [this, kA] at p4; exact absurd p4.2.2.1 (by decide)), hG 22 _ (by omega) (by omega)]
            exact p6 q hq
          · have e23 : chg G i 23 (64 * i + k) = G 23 (64 * i + k) := hG 23 _ (by omega) (by omega)
            refine ⟨fun z => ?_, fun z => ⟨?_, fun t ht => ?_⟩⟩
            · rw [e23] at z
              rw [ow.2.1, ow.2.2.1]; exact p7.1 z
            · rw [e23] at z ⊢
              rw [ow.2.1]; exact (p7.2 z).1
            · rw [e23] at z ht
              rw [ow.2.2.1, hG 24 _ (by omega) (by omega)]; exact (p7.2 z).2 t ht
          · rw [htg, if_neg (by omega), if_neg (by omega)]
            congr 1
            omega
          · rw [htg, if_pos (by omega)]; exact tg2
      · have hmo := C.mo hi
        obtain ⟨-, is, ia, -, ip⟩ := hmo
        have li := is.1
        have lj := ia.1
        have := ma.1.1
        have := ms.1.1
        have nsh : sh i ≠ sh m := fun q => hc (C.inj hi hm q)
        have kSi := is.2.1
        have kAi := ia.2.1
        have nAS : sh i ≠ ins m := fun q => by rw [q, kA] at kSi; exact absurd kSi.1 (by decide)
        have oS := ox (sh i) (by omega) nAS nsh
        refine MoF.keep gi hi (C.mo hi) rfl (fun k _ => rfl) (by rw [hins, if_neg hc]) (fun k hk => ?_) (fun x hx => by rw [htg, if_pos (by omega)]) (by show hn S ≤ hn T; omega) ((ox 1 (by omega) (by omega) (by omega)).2.2.2 i) (oS.sa 5) (okd _ (by omega) (by rw [kSi.2.1]; decide) (by rw [kSi.2.1]; decide)) (okd _ (by omega) (by rw [kSi.2.2]; decide) (by rw [kSi.2.2]; decide)) ?_ (okd _ (by omega) (by rw [kAi.2.1]; decide) (by rw [kAi.2.1]; decide)) (okd _ (by omega) (by rw [kAi.2.2]; decide) (by rw [kAi.2.2]; decide)) (fun k hk => ?_) (GA.of (fun a j h1 h2 => hG a j h1 (by omega))) ?_ ?_
        · have : ins i ≠ b := by omega
          rw [hpl, hnt, hwy, if_neg this, if_neg this, if_neg this]
          exact ⟨rfl, rfl, rfl⟩
        · have nS : ins i ≠ sh m := fun q => by rw [q, kS] at kAi; exact absurd kAi.1 (by decide)
          have oo : Od (ins i) (wI S (ins m) 4 ((cJ G m : Int) - 1)) (wR T (sh m) 6 (some b)) := (t2 (ins i) (by omega)).tr (Od.r nS)
          exact ⟨oo.1, fun j hj => by rw [oo.2.2.1, hI_wI, if_neg (by omega)], fun j => oo.2.2.2 j⟩
        · obtain ⟨p1, p2, p3, p4, p5, p6, p7⟩ := (ip k hk).1
          exact ⟨okd _ (by omega) (by rw [p2.2.2]; decide) (by rw [p2.2.2]; decide), okd _ (by omega) (by rw [p4.2.2.1]; decide) (by rw [p4.2.2.1]; decide), okd _ (by omega) (by rw [p5.2.2]; decide) (by rw [p5.2.2]; decide)⟩
        · rw [cJo i hi hc]
          show hI T (ins i) 4 = _
          rw [(t2 (ins i) (by omega)).2.2.1, hI_wI]
          by_cases c : ins i = ins m
          · rw [if_pos ⟨c, rfl⟩, if_pos c]
          · rw [if_neg (by omega), if_neg c]; exact ia.2.2.2.2.1.2.2
        · rw [oS.2.2.1, us]; exact is.2.2.2.2.2.1
    · rw [h141] at hi hj
      rw [G21, G21, hins i, hins j]
      have := h9 i hi
      have := h9 j hj
      have li := (C.ia hi).1
      have lj := (C.ia hj).1
      by_cases c1 : i = m
      · rw [if_pos c1, if_pos c1]
        by_cases c2 : j = m
        · rw [if_pos c2, if_pos c2]; simp
        · rw [if_neg c2, if_neg c2]
          exact ⟨fun q => by omega, fun q => by omega⟩
      · rw [if_neg c1, if_neg c1]
        by_cases c2 : j = m
        · rw [if_pos c2, if_pos c2]
          exact ⟨fun q => by omega, fun q => by omega⟩
        · rw [if_neg c2, if_neg c2]; exact C.2.2 i j hi hj
    · intro j hj hne
      rw [hins j, if_neg hne, emb]
      have lj := (C.ia hj).1
      omega
    · intro a j h1 h2
      have oo := ox a (by omega) (by have := ma.1.1; omega) (by have := ms.1.1; omega)
      exact oo.2.2.1 j
    · have f1 : Fix T := ⟨fun a ha => by rw [(t2 a (by omega)).1, (t2 a (by omega)).2.1]; exact hs.1.1 a ha, fun r hr => by
        have : ∀ r ∈ rT, r.1 < 39 := by decide
        rw [(t2 r.1 (by have := this r hr; omega)).2.2.2]
        exact hs.1.2 r hr⟩
      refine f1.wR _ (fun r hr => Or.inl ?_)
      have : ∀ r ∈ rT, r.1 < 39 := by decide
      have := this r hr
      have := ms.1.1
      omega
    · show hn T ≤ hn S + 131; omega
    · show hu T ≤ hu S + 8581
      rw [hu_wI] at t1'
      omega
    · show hn S ≤ hn T; omega
    · funext j
      have := ma.1.1
      show hI T 0 j = hI S 0 j
      rw [(t2 0 (by omega)).2.2.1, hI_wI, if_neg (by omega)]
end
