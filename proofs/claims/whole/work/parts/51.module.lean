/-! module -/
variable {sh ins : Nat → Nat} {pl nt wy : Nat → Nat → Nat} {tg : Nat → Nat × Nat}
section
variable {G : Nat → Nat → Int} {S : AS}
theorem bg_22 {t i q : Nat} (h : i ≠ t) (hq : q < 8320) : bg G t 22 (8320 * i + q) = G 22 (8320 * i + q) := by
  unfold bg fl
  rw [if_neg (by omega), if_neg (by omega), uq_ne (by omega), uq_ne (by omega), uq_ne (by omega), uq_ne (by omega), uq_ne (by omega)]
theorem bg_23 {t i k : Nat} (h : i ≠ t) (hk : k < 64) : bg G t 23 (64 * i + k) = G 23 (64 * i + k) := by
  unfold bg fl
  rw [if_neg (by omega), if_neg (by omega), uq_ne (by omega), uq_ne (by omega), uq_ne (by omega), uq_ne (by omega), uq_ne (by omega)]
theorem bg_t {t : Nat} : (bg G t 15 t = 0 ∧ bg G t 18 t = 0 ∧ bg G t 20 t = 0 ∧ bg G t 21 t = G 14 9 + 1 ∧ bg G t 14 9 = G 14 9 + 1) ∧ (∀ q, q < 8320 → bg G t 22 (8320 * t + q) = -1) ∧ ∀ k, k < 64 → bg G t 23 (64 * t + k) = 0 := by
  refine ⟨⟨?_, ?_, ?_, ?_, ?_⟩, fun q hq => ?_, fun k hk => ?_⟩
  · unfold bg fl
    rw [if_neg (by omega), if_neg (by omega), uq_ne (by omega), uq_ne (by omega), uq_ne (by omega), uq_ne (by omega), uq_at]
  · unfold bg fl
    rw [if_neg (by omega), if_neg (by omega), uq_ne (by omega), uq_ne (by omega), uq_ne (by omega), uq_at]
  · unfold bg fl
    rw [if_neg (by omega), if_neg (by omega), uq_ne (by omega), uq_ne (by omega), uq_at]
  · unfold bg fl
    rw [if_neg (by omega), if_neg (by omega), uq_at]
  · unfold bg fl
    rw [if_neg (by omega), if_neg (by omega), uq_ne (by omega), uq_at]
  · unfold bg fl
    rw [if_neg (by omega), if_pos (by omega)]
  · unfold bg fl
    rw [if_pos (by omega)]
/-- G' has one module more, t; the others as they were -/
def Ad (G G' : Nat → Nat → Int) (t : Nat) : Prop := (G 14 1 = t ∧ G' 14 1 = (t : Int) + 1) ∧ (∀ i : Nat, i < t → GA G G' i ∧ MA G G' i ∧ G' 21 i = G 21 i) ∧ (G 14 9 ≤ G' 14 9)
theorem Ad.fo {G G' : Nat → Nat → Int} {t : Nat} (h : Ad G G' t) {i k : Nat} (hi : i < t) (hk : (k : Int) < G 18 i) : fo G' i k = fo G i k := by
  unfold Jvm.Pilot.CDesignTreesLaw_law_r7278_6f8192.fo
  rw [((h.2.1 i hi).1.2.2.2 k hk).1]
theorem Ad.used {G G' : Nat → Nat → Int} {t : Nat} (h : Ad G G' t) (i : Nat) : used G' i ↔ used G i ∨ ∃ k : Nat, (k : Int) < G' 18 t ∧ Jvm.Pilot.CDesignTreesLaw_law_r7278_6f8192.fo G' t k = i := by
  constructor
  · rintro ⟨j, k, h1, h2, h3⟩
    rw [h.1.2] at h1
    by_cases c : j = t
    · subst c
      exact Or.inr ⟨k, h2, h3⟩
    · have hj : j < t := by omega
      rw [(h.2.1 j hj).1.2.1.1] at h2
      rw [h.fo hj h2] at h3
      exact Or.inl ⟨j, k, by rw [h.1.1]; omega, h2, h3⟩
  · rintro (⟨j, k, h1, h2, h3⟩ | ⟨k, h2, h3⟩)
    · rw [h.1.1] at h1
      have hj : j < t := by omega
      exact ⟨j, k, by rw [h.1.2]; omega, by rw [(h.2.1 j hj).1.2.1.1]; exact h2, by rw [h.fo hj h2]; exact h3⟩
    · exact ⟨t, k, by rw [h.1.2]; omega, h2, h3⟩
theorem Ad.cJ {G G' : Nat → Nat → Int} {t : Nat} (h : Ad G G' t) {i : Nat} (hi : i < t) : cJ G' i = cJ G i + (if G' 21 t = G 21 i then 1 else 0) := by
  unfold Jvm.Pilot.CDesignTreesLaw_law_r7278_6f8192.cJ
  rw [h.1.2, h.1.1, show ((t : Int) + 1).toNat = t + 1 by omega, tn, cnt_s, (h.2.1 i hi).2.2]
  have e : cnt (fun j => decide (G' 21 j = G 21 i)) t = cnt (fun j => decide (G 21 j = G 21 i)) t := cnt_congr _ (fun k hk => by rw [(h.2.1 k hk).2.2])
  rw [e]
  by_cases c : G' 21 t = G 21 i <;> simp [c]
theorem GI.ad {G G' : Nat → Nat → Int} {t : Nat} (gi : GI G) (h : Ad G G' t) (ht : t < 24) (h9 : G' 14 9 ≤ 100000) (h17 : ∀ j, G' 17 j = 0 ∨ G' 17 j = 1) (mt : MI G' t) (hf : ∀ k : Nat, (k : Int) < G' 18 t → fo G' t k < t) : GI G' := by
  obtain ⟨h1, h2, ⟨rk, h3⟩, h4, h5⟩ := gi
  refine ⟨by rw [h.1.2]; omega, fun i hi => ?_, ?_, ⟨by have := h.2.2; omega, h9⟩, h17⟩
  · rw [h.1.2] at hi
    by_cases c : i = t
    · subst c; exact mt
    · exact (h2 i (by rw [h.1.1]; omega)).of (h.2.1 i (by omega)).2.1
  · -- the new one above all
    have bound : ∀ n : Nat, ∃ B, ∀ i, i < n → rk i < B := by
      intro n
      induction n with
      | zero => exact ⟨0, fun i hi => absurd hi (Nat.not_lt_zero _)⟩
      | succ n ih =>
        obtain ⟨B, hB⟩ := ih
        refine ⟨B + rk n + 1, fun i hi => ?_⟩
        by_cases c : i = n
        · subst c; omega
        · have := hB i (by omega); omega
    obtain ⟨B, hB⟩ := bound t
    refine ⟨fun i => if i = t then B else rk i, fun i k hi hk => ?_⟩
    rw [h.1.2] at hi
    by_cases c : i = t
    · subst c
      have := hf k hk
      dsimp only
      rw [if_neg (by omega), if_pos rfl]
      exact hB _ this
    · have hi' : i < t := by omega
      rw [(h.2.1 i hi').1.2.1.1] at hk
      rw [h.fo hi' hk]
      have z : (i : Int) < G 14 1 := by rw [h.1.1]; omega
      have := h3 i k z hk
      have l := ((h2 i z).2.2.2.1 k hk)
      have : fo G i k < t := by unfold fo; rw [h.1.1] at l; omega
      dsimp only
      rw [if_neg (by omega), if_neg c]
      exact h3 i k z hk
theorem nw_ad (gi : GI G) (h24 : G 14 1 ≠ 24) : Ad G (nwG G) (G 14 1).toNat := by
  obtain ⟨t, ht⟩ : ∃ t : Nat, (G 14 1).toNat = t := ⟨_, rfl⟩
  have h1 := gi.1
  have hG : ∀ a j, a ≠ 22 → a ≠ 23 → a ≠ 14 → (j = t → a ≠ 15 ∧ a ≠ 18 ∧ a ≠ 20 ∧ a ≠ 21) → nwG G a j = G a j := fun a j z1 z2 z3 z4 => by
    unfold nwG
    rw [ht, uq_ne (by omega), bg_o (by omega)]
  have g22 : ∀ i q, i ≠ t → q < 8320 → nwG G 22 (8320 * i + q) = G 22 (8320 * i + q) := fun i q z1 z2 => by unfold nwG; rw [ht, uq_ne (by omega), bg_22 z1 z2]
  have g23 : ∀ i k, i ≠ t → k < 64 → nwG G 23 (64 * i + k) = G 23 (64 * i + k) := fun i k z1 z2 => by unfold nwG; rw [ht, uq_ne (by omega), bg_23 z1 z2]
  have g9 : nwG G 14 9 = G 14 9 + 1 := by unfold nwG; rw [uq_ne (by omega), bg_t.1.2.2.2.2]
  rw [ht]
  have pa : ∀ x, x ≠ t → PA G (nwG G) x := fun x hx => ⟨hG _ _ (by omega) (by omega) (by omega) (by omega), fun k _ => ⟨hG _ _ (by omega) (by omega) (by omega) (by omega), hG _ _ (by omega) (by omega) (by omega) (by omega)⟩⟩
  have g141 : nwG G 14 1 = G 14 1 + 1 := uq_at _ _ _ _
  refine ⟨⟨by omega, by rw [g141]; omega⟩, fun i hi => ?_, by rw [g9]; omega⟩
  have hi' : (i : Int) < G 14 1 := by omega
  have ni := gi.ni hi'
  refine ⟨⟨pa i (by omega), ⟨hG _ _ (by omega) (by omega) (by omega) (by omega), hG _ _ (by omega) (by omega) (by omega) (by omega)⟩, fun q hq => ?_, fun k hk => ⟨hG _ _ (by omega) (by omega) (by omega) (by omega), g23 i k (by omega) (by omega), fun t _ => hG _ _ (by omega) (by omega) (by omega) (by omega), fun q hq => ?_, pa _ ?_⟩⟩, ⟨pa i (by omega), ⟨hG _ _ (by omega) (by omega) (by omega) (by omega), hG _ _ (by omega) (by omega) (by omega) (by omega)⟩, fun k hk => ⟨hG _ _ (by omega) (by omega) (by omega) (by omega), g23 i k (by omega) (by omega)⟩, fun q hq => g22 i q (by omega) hq, ?_, by rw [g141]; omega⟩, hG _ _ (by omega) (by omega) (by omega) (by omega)⟩
  · have := g22 i (8192 + q) (by omega) (by omega)
    rw [← Nat.add_assoc] at this
    exact this
  · have := g22 i (128 * k + q) (by omega) (by omega)
    rw [← Nat.add_assoc] at this
    exact this
  · have := (gi.fv hi' hk).2
    omega
  · rw [g9, hG 21 i (by omega) (by omega) (by omega) (by omega)]
    have := (gi.at hi').2.2.2.2.2.2.2
    omega
theorem nw_t (gi : GI G) {t : Nat} (ht : (G 14 1).toNat = t) : (nwG G 15 t = 0 ∧ nwG G 18 t = 0 ∧ nwG G 20 t = 0 ∧ nwG G 21 t = G 14 9 + 1 ∧ nwG G 14 9 = G 14 9 + 1) ∧ (∀ q, q < 8320 → nwG G 22 (8320 * t + q) = -1) := by
  obtain ⟨⟨b1, b2, b3, b4, b5⟩, b6, b7⟩ := bg_t (G := G) (t := t)
  unfold nwG
  rw [ht]
  exact ⟨⟨by rw [uq_ne (by omega)]; exact b1, by rw [uq_ne (by omega)]; exact b2, by rw [uq_ne (by omega)]; exact b3, by rw [uq_ne (by omega)]; exact b4, by rw [uq_ne (by omega)]; exact b5⟩, fun q hq => by rw [uq_ne (by omega)]; exact b6 q hq⟩
theorem GI.module (gi : GI G) (h24 : G 14 1 ≠ 24) (hb : G 14 9 ≤ 1000) : GI (nwG G) := by
  have h1 := gi.1
  obtain ⟨t, ht⟩ : ∃ t : Nat, (G 14 1).toNat = t := ⟨_, rfl⟩
  have ad := nw_ad gi h24
  rw [ht] at ad
  obtain ⟨⟨b1, b2, b3, b4, b5⟩, b6⟩ := nw_t gi ht
  have pc0 : pc (nwG G) t = 0 := by unfold pc; rw [b1]; rfl
  refine gi.ad ad (by omega) (by rw [b5]; omega) (fun j => ?_) ⟨⟨by rw [b1]; decide, by rw [b1]; decide, fun k hk => by rw [b1] at hk; omega⟩, by rw [b2]; decide, by rw [b3]; decide, fun k hk => by rw [b2] at hk; omega, fun q hq => ?_, fun k q hk hq => ?_, fun k hk => by rw [b2] at hk; omega, by rw [b4, b5]; omega⟩ (fun k hk => by rw [b2] at hk; omega)
  · unfold nwG
    rw [uq_ne (by omega), bg_o (by omega)]
    exact gi.2.2.2.2 j
  · have := b6 (8192 + q) (by omega)
    rw [← Nat.add_assoc] at this
    rw [this, b3]
    exact ⟨by omega, by omega, fun _ => rfl⟩
  · have := b6 (128 * k + q) (by omega)
    rw [← Nat.add_assoc] at this
    rw [this, b3]
    exact ⟨by omega, by omega, fun _ => rfl⟩
theorem x_module (C : Cls sh ins pl nt wy tg G S) (hs : Stt S) (gi : GI G) : (G 14 1 = 24 → CO S (f_X5_module (some 0) S) 2 0) ∧ (G 14 1 ≠ 24 → CX S (f_X5_module (some 0) S) 0 (G 14 1) (nwG G)) := by
  have h := hs.1
  have k0 := fk_0 h
  have h39 := hs.2.1
  have rm := hs.2.2
  have h1 := gi.1
  constructor
  · intro h24
    unfold f_X5_module f_X5_requireRoomForModule
    rw [gd_t k0, c_n C h, Option.bind_some, if_pos h24, cV_X]
    exact CO.x (Sc.rfl' S) hs
  · intro h24
    obtain ⟨t, ht⟩ : ∃ t : Nat, (G 14 1).toNat = t := ⟨_, rfl⟩
    have et : G 14 1 = (t : Int) := by omega
    have ad := nw_ad gi h24
    rw [ht] at ad
    obtain ⟨⟨b1, b2, b3, b4, b5⟩, b6⟩ := nw_t gi ht
    obtain ⟨a, ha⟩ : ∃ a, hn S = a := ⟨_, rfl⟩
    obtain ⟨U, eU, nU, iU⟩ := newInside (S := S) (by have := rm.1; omega) (by have := rm.2; omega)
    rw [ha] at eU iU
    have fU := nU.fix h h39
    have nU1 : hn U = a + 3 := by rw [nU.1, ha]
    have u01 : hI U 0 1 = (t : Int) := by rw [(nU.2.2 0 (by omega)).2.2.1, C.1, et]
    obtain ⟨T, eT, ⟨nT, uT⟩, oT, fT, i01, r1, s0⟩ := newShell (S := U) (n := t) (a := some a) fU (by omega) (by have := rm.1; omega) (by rw [nU.2.1]; have := rm.2; omega) u01 (by omega)
    rw [nU1] at eT nT oT r1 s0
    obtain ⟨⟨z1, z2, z3⟩, ⟨z4, z5⟩, ⟨z6, z7, z8⟩, ⟨z9, z10, z11, z12⟩, z13, z14⟩ := s0
    obtain ⟨⟨y1, y2, y3⟩, ⟨y4, y5⟩, ⟨y6, y7⟩, ⟨y8, y9, y10⟩, y11⟩ := iU
    have oA : ∀ x, a ≤ x → x < a + 3 → Od x U T := fun x h1 h2 => oT x (by omega) (by omega) (by omega)
    have oo : ∀ x, 39 ≤ x → x < a → Od x S T := fun x h1 h2 => (nU.2.2 x (by omega)).tr (oT x (by omega) (by omega) (by omega))
    obtain ⟨sh', hsh⟩ : ∃ f : Nat → Nat, ∀ i, f i = if i = t then a + 3 else sh i := ⟨_, fun _ => rfl⟩
    obtain ⟨ins', hins⟩ : ∃ f : Nat → Nat, ∀ i, f i = if i = t then a else ins i := ⟨_, fun _ => rfl⟩
    obtain ⟨tg', htg⟩ : ∃ f : Nat → Nat × Nat, ∀ x, f x = if x < a then tg x else if x = a + 4 then (a + 3, 0) else (a, 0) := ⟨_, fun _ => rfl⟩
    have st : sh' t = a + 3 := by rw [hsh, if_pos rfl]
    have it : ins' t = a := by rw [hins, if_pos rfl]
    have pc0 : pc (nwG G) t = 0 := by unfold pc; rw [b1]; rfl
    have l9 : ∀ i : Nat, i < t → G 21 i ≤ G 14 9 := fun i hi => (gi.at (by omega)).2.2.2.2.2.2.2
    refine ⟨T, sh', ins', pl, nt, wy, tg', ?_, ⟨?_, fun i hi => ?_, fun i j hi hj => ?_⟩, ⟨fun b j h1 h2 => ?_, fT⟩, ⟨by rw [nT]; omega, by rw [uT, nU.2.1]; omega⟩, by rw [nT]; omega⟩
    · unfold f_X5_module f_X5_requireRoomForModule
      rw [gd_t k0, c_n C h, Option.bind_some, if_neg h24, rV_s, cV_s, ha, eU, fk_0 fU, gd_1, eT, cR_s, gI_at z1, Option.bind_some, z9, rI_s, et]
    · rw [i01, ad.1.2]
    · rw [ad.1.2] at hi
      show MoF sh' ins' pl nt wy tg' (nwG G) T i
      by_cases c : i = t
      · subst c
        refine ⟨⟨by rw [r1, if_pos rfl, st], by rw [st, it, z8]⟩, ?_, ?_, ⟨?_, ?_⟩, fun k hk => by rw [b2] at hk; omega⟩
        · rw [st]
          refine ⟨⟨by omega, by omega⟩, ⟨z1, z2, z3⟩, ⟨z4, z5⟩, ⟨z6, z7⟩, ⟨z9, by rw [z10, b1], by rw [z11, pc0]⟩, ⟨Or.inl z12, ?_⟩, fun k hk => ?_, fun q hq => by rw [pc0] at hq; omega⟩
          · rw [z12]
            refine ⟨fun q => by omega, fun q => ?_⟩
            rcases (ad.used i).mp q with ⟨j, k, q1, q2, q3⟩ | ⟨k, q1, q2⟩
            · have := (gi.fv q1 q2).2
              omega
            · rw [b2] at q1; omega
          · rw [z13, b1, if_neg (by omega)]
        · rw [it]
          have o0 := oA a (by omega) (by omega)
          have o1 := oA (a + 1) (by omega) (by omega)
          have o2 := oA (a + 2) (by omega) (by omega)
          refine ⟨⟨by omega, by omega⟩, ⟨by rw [o0.1]; exact y1, by rw [o1.1]; exact y2, by rw [o2.1]; exact y3⟩, ⟨by rw [o1.2.1]; exact y4, by rw [o2.2.1]; exact y5⟩, ⟨by rw [o0.2.2.2]; exact y6, by rw [o0.2.2.2]; exact y7⟩, ⟨by rw [o0.2.2.1, y8, b2], by rw [o0.2.2.1, y9, b3], ?_⟩, fun q hq => ?_⟩
          · rw [o0.2.2.1, y10]
            unfold cJ
            rw [ad.1.2, show ((i : Int) + 1).toNat = i + 1 by omega, cnt_s]
            have e : cnt (fun j => decide (nwG G 21 j = nwG G 21 i)) i = cnt (fun _ => false) i := cnt_congr _ (fun k hk => by
              rw [(ad.2.1 k hk).2.2, b4]
              have := l9 k hk
              have : ¬ (G 21 k = G 14 9 + 1) := by omega
              simp [this])
            have z : ∀ n, cnt (fun _ => false) n = 0 := by
              intro n
              induction n with
              | zero => rfl
              | succ n ih => rw [cnt_s, ih]; rfl
            rw [e, z]
            simp
          · rw [o1.2.2.1, y11 q hq]
            have := b6 (8192 + q) (by omega)
            rw [← Nat.add_assoc] at this
            rw [this]
        · rw [st, htg, if_neg (by omega), if_pos rfl]
        · rw [it, htg, if_neg (by omega), if_neg (by omega)]
      · have hi' : (i : Int) < G 14 1 := by omega
        obtain ⟨-, is, ia, -, ip⟩ := C.mo hi'
        have ls := is.1
        have la := ia.1
        have ga := (ad.2.1 i (by omega)).1
        refine MoF.keep gi hi' (C.mo hi') (by rw [hsh, if_neg c]) (fun k hk => by have := (gi.fv hi' hk).2; rw [hsh, if_neg (by omega)]) (by rw [hins, if_neg c]) (fun _ _ => ⟨rfl, rfl, rfl⟩) (fun x hx => by rw [htg, if_pos (by omega)]) (by omega) (by rw [r1, if_neg c, (nU.2.2 1 (by omega)).2.2.2]) ((oo _ (by omega) (by omega)).sa 5) (oo _ (by omega) (by omega)) (oo _ (by omega) (by omega)) ((oo _ (by omega) (by omega)).sa 4) (oo _ (by omega) (by omega)) (oo _ (by omega) (by omega)) (fun k hk => ?_) ga ?_ ?_
        · obtain ⟨p1, p2, p3, p4, p5, p6, p7⟩ := (ip k hk).1
          exact ⟨oo _ (by omega) (by omega), oo _ (by omega) (by omega), oo _ (by omega) (by omega)⟩
        · rw [(oo _ (by omega) (by omega)).2.2.1, ad.cJ (by omega), b4, if_neg (by have := l9 i (by omega); omega)]
          exact ia.2.2.2.2.1.2.2
        · rw [(oo _ (by omega) (by omega)).2.2.1, ad.used]
          refine ⟨is.2.2.2.2.2.1.1, is.2.2.2.2.2.1.2.trans ⟨Or.inl, fun q => q.resolve_right (fun ⟨k, q1, _⟩ => by rw [b2] at q1; omega)⟩⟩
    · rw [ad.1.2] at hi hj
      rw [hins i, hins j]
      by_cases c1 : i = t
      · by_cases c2 : j = t
        · rw [if_pos c1, if_pos c2, c1, c2]; simp
        · have := l9 j (by omega)
          have lj := (C.ia (i := j) (by omega)).1
          rw [if_pos c1, if_neg c2, c1, b4, (ad.2.1 j (by omega)).2.2]
          exact ⟨fun q => by omega, fun q => by omega⟩
      · by_cases c2 : j = t
        · have := l9 i (by omega)
          have lj := (C.ia (i := i) (by omega)).1
          rw [if_neg c1, if_pos c2, c2, b4, (ad.2.1 i (by omega)).2.2]
          exact ⟨fun q => by omega, fun q => by omega⟩
        · rw [if_neg c1, if_neg c2, (ad.2.1 i (by omega)).2.2, (ad.2.1 j (by omega)).2.2]
          exact C.2.2 i j (by omega) (by omega)
    · exact ((nU.2.2 b (by omega)).tr (oT b (by omega) (by omega) (by omega))).2.2.1 j
end
