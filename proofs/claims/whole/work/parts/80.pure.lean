/-! one turn of the law's loop -/
section
variable {G : Nat → Nat → Int} {S : AS}
theorem pair0 {c : Nat} (li : Li c G S) {cl : Option RS} {mdl : AS → Option RS} {v e' v' : Int} {G' : Nat → Nat → Int} (cx : CX S cl 0 v G') (mo : ∀ T, Fix T → Ag G T → MO T (mdl T) e' v' G') (gi' : GI G') (h9' : G' 14 9 ≤ G 14 9 + 1) : ∃ (S1 S7 : AS), cl = some ((0, v, none), S1) ∧ Fix S1 ∧ mdl S1 = some ((0, v', none), S7) ∧ Li (c + 1) G' S7 := by
  obtain ⟨-, fS, ⟨n1, n2, n3⟩, g, gi, h9⟩ := li
  obtain ⟨S1, sh, ins, pl, nt, wy, tg, e1, C1, fr, bd, le⟩ := cx
  have b1 := bd.1
  have b2 := bd.2
  obtain ⟨S7, m1, m2, m3, m4⟩ := mo S1 fr.2 (fr.ag g)
  obtain ⟨k7, ⟨n7, u7⟩, o7⟩ := m2.kp
  exact ⟨S1, S7, e1, fr.2, m1, ⟨sh, ins, pl, nt, wy, tg, C1.kp k7⟩, m2.fix fr.2, ⟨by omega, by omega, by omega⟩, m4, gi', by omega⟩
theorem aS_ok {L : Nat} {xs : Nat → Int32} {i : Int} (h0 : 0 ≤ i) (h1 : i < L) : aS L xs i = some (xs i.toNat).toInt := if_pos ⟨h0, h1⟩
noncomputable def NX (L : Nat) (xs : Nat → Int32) (n k : Nat) (S : AS) : Option RS := (chk ((k : Int) + 5)).bind fun z => f_L_law_23 L xs n (some 0) (some 14) (some 38) z S
theorem nx_ok {L : Nat} {xs : Nat → Int32} {n k : Nat} (hk9 : k ≤ 2560) (S : AS) : NX L xs n k S = f_L_law_23 L xs n (some 0) (some 14) (some 38) ((k + 5 : Nat) : Int) S := by
  unfold NX
  rw [chk_ok (by omega) (by omega), Option.bind_some]
  rfl
set_option maxHeartbeats 4000000 in
theorem law_step {L : Nat} (hL : L ≤ 2560) (xs : Nat → Int32) {k c : Nat} (hkc : k = 5 * c) (hk5 : k + 5 ≤ L) (li : Li c G S) (n : Nat) : ∃ (S' : AS) (G' : Nat → Nat → Int), f_L_law_23 L xs (n + 1) (some 0) (some 14) (some 38) k S = f_L_law_23 L xs n (some 0) (some 14) (some 38) ((k + 5 : Nat) : Int) S' ∧ Li (c + 1) G' S' := by
  have hs := li.stt (by omega)
  obtain ⟨⟨sh, ins, pl, nt, wy, tg, C⟩, f, nb, g, gi, h9⟩ := id li
  have hb : G 14 9 ≤ 1000 := by omega
  obtain ⟨y0, A0⟩ : ∃ y, aS L xs (k : Int) = some y := ⟨_, aS_ok (by omega) (by omega)⟩
  obtain ⟨y1, A1, b1⟩ : ∃ y, aS L xs ((k : Int) + 1) = some y ∧ (-2147483648 ≤ y ∧ y ≤ 2147483647) := ⟨_, aS_ok (by omega) (by omega), i32_inR _⟩
  have K1 : chk ((k : Int) + 1) = some ((k : Int) + 1) := chk_ok (by omega) (by omega)
  obtain ⟨y2, A2, b2⟩ : ∃ y, aS L xs ((k : Int) + 2) = some y ∧ (-2147483648 ≤ y ∧ y ≤ 2147483647) := ⟨_, aS_ok (by omega) (by omega), i32_inR _⟩
  have K2 : chk ((k : Int) + 2) = some ((k : Int) + 2) := chk_ok (by omega) (by omega)
  obtain ⟨y3, A3, b3⟩ : ∃ y, aS L xs ((k : Int) + 3) = some y ∧ (-2147483648 ≤ y ∧ y ≤ 2147483647) := ⟨_, aS_ok (by omega) (by omega), i32_inR _⟩
  have K3 : chk ((k : Int) + 3) = some ((k : Int) + 3) := chk_ok (by omega) (by omega)
  obtain ⟨y4, A4, b4⟩ : ∃ y, aS L xs ((k : Int) + 4) = some y ∧ (-2147483648 ≤ y ∧ y ≤ 2147483647) := ⟨_, aS_ok (by omega) (by omega), i32_inR _⟩
  have K4 : chk ((k : Int) + 4) = some ((k : Int) + 4) := chk_ok (by omega) (by omega)
  have nx := fun S' => nx_ok (L := L) (xs := xs) (n := n) (k := k) (by omega) S'
  obtain ⟨R, hR9⟩ : ∃ R, R = f_L_law_23 L xs (n + 1) (some 0) (some 14) (some 38) k S := ⟨_, rfl⟩
  rw [← hR9]
  unfold f_L_law_23 at hR9
  rw [chk_ok (x := (L : Int) - 5) (by omega) (by omega), Option.bind_some, if_neg (by omega), A0, Option.bind_some] at hR9
  by_cases c0 : y0 % 32 = 0
  · obtain ⟨code, v, S2, S7, G', e1, -, f2, e2, t0, tv, li'⟩ := pair li (okp_module C hs gi hb)
    have w9 : f_L_module (some 0) (some 38) S = some ((0, code, none), S2) := by
      unfold f_L_module
      rw [fk_0 f, gd_1]
      exact e1
    refine ⟨S7, G', ?_, li'⟩
    rw [if_pos c0, w9, cM_s, fk_14 f2, gd_1, e2, cM_s] at hR9
    rw [hR9, ← nx]
    exact tlI_ok (nx := NX L xs n k) li'.2.1 t0 (fun q => (tv q).1)
  rw [if_neg c0] at hR9
  by_cases c1 : y0 % 32 = 1
  · have go : ∀ z : Int, (z = 0 ∨ z = 1) → (y3 = 0 → z = 0) → (y3 ≠ 0 → z = 1) → R = f_L_law_207 L xs (f_L_law_23 L xs n) (some 0) (some 14) (some 38) k z y2 y1 (some 0) S → ∃ (S' : AS) (G' : Nat → Nat → Int), R = f_L_law_23 L xs n (some 0) (some 14) (some 38) ((k + 5 : Nat) : Int) S' ∧ Li (c + 1) G' S' := fun z hz z0 z1 hR => by
      obtain ⟨code, v, S2, S7, G', e1, -, f2, e2, t0, tv, li'⟩ := pair li (okp_port C hs gi y1 y2 z hz)
      have w9 : f_L_port (some 0) y1 y2 z (some 38) S = some ((0, code, none), S2) := by
        unfold f_L_port
        rw [fk_0 f, gd_1]
        exact e1
      refine ⟨S7, G', ?_, li'⟩
      have w8 : f_L_law_240 L xs (f_L_law_23 L xs n) (some 0) (some 14) (some 38) k code z y2 y1 (some 14) S2 = NX L xs n k S7 := by
        unfold f_L_law_240
        rw [fk_14 f2, gd_1, e2, cM_s]
        exact tlI_ok (nx := NX L xs n k) li'.2.1 t0 (fun q => (tv q).1)
      unfold f_L_law_207 at hR
      rw [w9, cM_s, K1, Option.bind_some, A1, Option.bind_some, K2, Option.bind_some, A2, Option.bind_some, K3, Option.bind_some, A3, Option.bind_some] at hR
      rw [hR, ← nx, ← w8]
      by_cases cz : y3 = 0
      · rw [if_pos cz, z0 cz]
      · rw [if_neg cz, z1 cz]
    rw [if_pos c1, K1, Option.bind_some, A1, Option.bind_some, K2, Option.bind_some, A2, Option.bind_some, K3, Option.bind_some, A3, Option.bind_some] at hR9
    by_cases cz : y3 = 0
    · rw [if_pos cz] at hR9
      exact go 0 (Or.inl rfl) (fun _ => rfl) (fun q => absurd cz q) hR9
    · rw [if_neg cz] at hR9
      exact go 1 (Or.inr rfl) (fun q => absurd q cz) (fun _ => rfl) hR9
  rw [if_neg c1] at hR9
  by_cases c2 : y0 % 32 = 2
  · obtain ⟨code, v, S2, S7, G', e1, -, f2, e2, t0, tv, li'⟩ := pair li (okp_inst C hs gi hb y1 y2)
    have w9 : f_L_instance (some 0) y1 y2 (some 38) S = some ((0, code, none), S2) := by
      unfold f_L_instance
      rw [fk_0 f, gd_1]
      exact e1
    refine ⟨S7, G', ?_, li'⟩
    rw [if_pos c2, K1, Option.bind_some, A1, Option.bind_some, K2, Option.bind_some, A2, Option.bind_some, w9, cM_s, Option.bind_some, A1, Option.bind_some, Option.bind_some, A2, Option.bind_some, fk_14 f2, gd_1, e2, cM_s] at hR9
    rw [hR9, ← nx]
    exact tlI_ok (nx := NX L xs n k) li'.2.1 t0 (fun q => (tv q).1)
  rw [if_neg c2] at hR9
  by_cases c3 : y0 % 32 = 3
  · obtain ⟨code, v, S2, S7, G', e1, -, f2, e2, t0, tv, li'⟩ := pair li (okp_net C hs gi hb y1)
    have w9 : f_L_net (some 0) y1 (some 38) S = some ((0, code, none), S2) := by
      unfold f_L_net
      rw [fk_0 f, gd_1]
      exact e1
    refine ⟨S7, G', ?_, li'⟩
    rw [if_pos c3, K1, Option.bind_some, A1, Option.bind_some, w9, cM_s, Option.bind_some, A1, Option.bind_some, fk_14 f2, gd_1, e2, cM_s] at hR9
    rw [hR9, ← nx]
    exact tlI_ok (nx := NX L xs n k) li'.2.1 t0 (fun q => (tv q).1)
  rw [if_neg c3] at hR9
  by_cases c4 : y0 % 32 = 4
  · obtain ⟨code, v, S2, S7, G', -, e1, f2, e2, t0, tv, li'⟩ := pair li (okp_join C hs gi hb y1 y2 y3 y4)
    have w9 : f_L_join (some 0) y1 y2 y3 y4 (some 38) S = some ((0, code, none), S2) := by
      unfold f_L_join
      rw [fk_0 f, gd_1]
      exact e1 trivial
    refine ⟨S7, G', ?_, li'⟩
    rw [if_pos c4, K1, Option.bind_some, A1, Option.bind_some, K2, Option.bind_some, A2, Option.bind_some, K3, Option.bind_some, A3, Option.bind_some, K4, Option.bind_some, A4, Option.bind_some, w9, cM_s, Option.bind_some, A1, Option.bind_some, Option.bind_some, A2, Option.bind_some, Option.bind_some, A3, Option.bind_some, Option.bind_some, A4, Option.bind_some, fk_14 f2, gd_1, e2, cM_s] at hR9
    rw [hR9, ← nx]
    exact tlZ_ok (nx := NX L xs n k) li'.2.1 t0 (fun q => ⟨(tv q).1, (tv q).2 trivial⟩)
  rw [if_neg c4] at hR9
  by_cases c5 : y0 % 32 = 5
  · obtain ⟨code, v, S2, S7, G', -, e1, f2, e2, t0, tv, li'⟩ := pair li (okp_part C hs gi hb y1 y2 y3)
    have w9 : f_L_part (some 0) y1 y2 y3 (some 38) S = some ((0, code, none), S2) := by
      unfold f_L_part
      rw [fk_0 f, gd_1]
      exact e1 trivial
    refine ⟨S7, G', ?_, li'⟩
    rw [if_pos c5, K1, Option.bind_some, A1, Option.bind_some, K2, Option.bind_some, A2, Option.bind_some, K3, Option.bind_some, A3, Option.bind_some, w9, cM_s, Option.bind_some, A1, Option.bind_some, Option.bind_some, A2, Option.bind_some, Option.bind_some, A3, Option.bind_some, fk_14 f2, gd_1, e2, cM_s] at hR9
    rw [hR9, ← nx]
    exact tlZ_ok (nx := NX L xs n k) li'.2.1 t0 (fun q => ⟨(tv q).1, (tv q).2 trivial⟩)
  rw [if_neg c5] at hR9
  by_cases c6 : y0 % 32 = 6
  · obtain ⟨code, v, S2, S7, G', e1, -, f2, e2, t0, tv, li'⟩ := pair li (okp_netOf C hs gi y1 y2 y3)
    have w9 : f_L_netOf (some 0) y1 y2 y3 (some 38) S = some ((0, code, none), S2) := by
      unfold f_L_netOf
      rw [fk_0 f, gd_1]
      exact e1
    refine ⟨S7, G', ?_, li'⟩
    rw [if_pos c6, K1, Option.bind_some, A1, Option.bind_some, K2, Option.bind_some, A2, Option.bind_some, K3, Option.bind_some, A3, Option.bind_some, w9, cM_s, Option.bind_some, A1, Option.bind_some, Option.bind_some, A2, Option.bind_some, Option.bind_some, A3, Option.bind_some, fk_14 f2, gd_1, e2, cM_s] at hR9
    rw [hR9, ← nx]
    exact tlI_ok (nx := NX L xs n k) li'.2.1 t0 (fun q => (tv q).1)
  rw [if_neg c6] at hR9
  by_cases c7 : y0 % 32 = 7
  · obtain ⟨code, v, S2, S7, G', e1, -, f2, e2, t0, tv, li'⟩ := pair li (okp_pins C hs gi y1 y2)
    have w9 : f_L_pins (some 0) y1 y2 (some 38) S = some ((0, code, none), S2) := by
      unfold f_L_pins
      rw [fk_0 f, gd_1]
      exact e1
    refine ⟨S7, G', ?_, li'⟩
    rw [if_pos c7, K1, Option.bind_some, A1, Option.bind_some, K2, Option.bind_some, A2, Option.bind_some, w9, cM_s, Option.bind_some, A1, Option.bind_some, Option.bind_some, A2, Option.bind_some, fk_14 f2, gd_1, e2, cM_s] at hR9
    rw [hR9, ← nx]
    exact tlI_ok (nx := NX L xs n k) li'.2.1 t0 (fun q => (tv q).1)
  rw [if_neg c7] at hR9
  by_cases c8 : y0 % 32 = 8
  · obtain ⟨code, v, S2, S7, G', e1, -, f2, e2, t0, tv, li'⟩ := pair li (okp_pin C hs gi y1 y2 y3 y4 b3)
    have w9 : f_L_pin (some 0) y1 y2 y3 y4 (some 38) S = some ((0, code, none), S2) := by
      unfold f_L_pin
      rw [fk_0 f, gd_1]
      exact e1
    refine ⟨S7, G', ?_, li'⟩
    rw [if_pos c8, K1, Option.bind_some, A1, Option.bind_some, K2, Option.bind_some, A2, Option.bind_some, K3, Option.bind_some, A3, Option.bind_some, K4, Option.bind_some, A4, Option.bind_some, w9, cM_s, Option.bind_some, A1, Option.bind_some, Option.bind_some, A2, Option.bind_some, Option.bind_some, A3, Option.bind_some, Option.bind_some, A4, Option.bind_some, fk_14 f2, gd_1, e2, cM_s] at hR9
    rw [hR9, ← nx]
    exact tlI_ok (nx := NX L xs n k) li'.2.1 t0 (fun q => (tv q).1)
  rw [if_neg c8] at hR9
  by_cases c9 : y0 % 32 = 9
  · obtain ⟨code, v, S2, S7, G', e1, -, f2, e2, t0, tv, li'⟩ := pair li (okp_copy C hs gi hb y1)
    have w9 : f_L_copy (some 0) y1 (some 38) S = some ((0, code, none), S2) := by
      unfold f_L_copy
      rw [fk_0 f, gd_1]
      exact e1
    refine ⟨S7, G', ?_, li'⟩
    rw [if_pos c9, K1, Option.bind_some, A1, Option.bind_some, w9, cM_s, Option.bind_some, A1, Option.bind_some, fk_14 f2, gd_1, e2, cM_s] at hR9
    rw [hR9, ← nx]
    exact tlI_ok (nx := NX L xs n k) li'.2.1 t0 (fun q => (tv q).1)
  rw [if_neg c9] at hR9
  by_cases c10 : y0 % 32 = 10
  · obtain ⟨code, v, S2, S7, G', -, e1, f2, e2, t0, tv, li'⟩ := pair li (okp_shared C hs gi y1 y2)
    have w9 : f_L_shared (some 0) y1 y2 (some 38) S = some ((0, code, none), S2) := by
      unfold f_L_shared
      rw [fk_0 f, gd_1]
      exact e1 trivial
    refine ⟨S7, G', ?_, li'⟩
    rw [if_pos c10, K1, Option.bind_some, A1, Option.bind_some, K2, Option.bind_some, A2, Option.bind_some, w9, cM_s, Option.bind_some, A1, Option.bind_some, Option.bind_some, A2, Option.bind_some, fk_14 f2, gd_1, e2, cM_s] at hR9
    rw [hR9, ← nx]
    exact tlZ_ok (nx := NX L xs n k) li'.2.1 t0 (fun q => ⟨(tv q).1, (tv q).2 trivial⟩)
  rw [if_neg c10] at hR9
  by_cases c11 : y0 % 32 = 11
  · obtain ⟨code, v, S2, S7, G', e1, -, f2, e2, t0, tv, li'⟩ := pair li (okp_flat C hs gi hb g y1)
    have w9 : f_L_flat (some 0) y1 (some 38) S = some ((0, code, none), S2) := by
      unfold f_L_flat
      rw [fk_0 f, gd_1]
      exact e1
    refine ⟨S7, G', ?_, li'⟩
    rw [if_pos c11, K1, Option.bind_some, A1, Option.bind_some, w9, cM_s, Option.bind_some, A1, Option.bind_some, fk_14 f2, gd_1, e2, cM_s] at hR9
    rw [hR9, ← nx]
    exact tlI_ok (nx := NX L xs n k) li'.2.1 t0 (fun q => (tv q).1)
  rw [if_neg c11] at hR9
  by_cases c12 : y0 % 32 = 12
  · obtain ⟨code, v, S2, S7, G', e1, -, f2, e2, t0, tv, li'⟩ := pair li (okp_path C hs gi y1 y2 y3)
    have w9 : f_L_path (some 0) y1 y2 y3 (some 38) S = some ((0, code, none), S2) := by
      unfold f_L_path
      rw [fk_0 f, gd_1]
      exact e1
    refine ⟨S7, G', ?_, li'⟩
    rw [if_pos c12, K1, Option.bind_some, A1, Option.bind_some, K2, Option.bind_some, A2, Option.bind_some, K3, Option.bind_some, A3, Option.bind_some, w9, cM_s, Option.bind_some, A1, Option.bind_some, Option.bind_some, A2, Option.bind_some, Option.bind_some, A3, Option.bind_some, fk_14 f2, gd_1, e2, cM_s] at hR9
    rw [hR9, ← nx]
    exact tlI_ok (nx := NX L xs n k) li'.2.1 t0 (fun q => (tv q).1)
  rw [if_neg c12] at hR9
  by_cases c13 : y0 % 32 = 13
  · obtain ⟨code, v, S2, S7, G', e1, -, f2, e2, t0, tv, li'⟩ := pair li (okp_doubled C hs gi y1 y2 b2.2)
    have w9 : f_L_doubled (some 0) y1 y2 (some 38) S = some ((0, code, none), S2) := by
      unfold f_L_doubled
      rw [fk_0 f, gd_1]
      exact e1
    refine ⟨S7, G', ?_, li'⟩
    rw [if_pos c13, K1, Option.bind_some, A1, Option.bind_some, K2, Option.bind_some, A2, Option.bind_some, w9, cM_s, Option.bind_some, A1, Option.bind_some, Option.bind_some, A2, Option.bind_some, fk_14 f2, gd_1, e2, cM_s] at hR9
    rw [hR9, ← nx]
    exact tlI_ok (nx := NX L xs n k) li'.2.1 t0 (fun q => (tv q).1)
  rw [if_neg c13] at hR9
  by_cases c14 : y0 % 32 = 14
  · obtain ⟨code, v, S2, S7, G', e1, -, f2, e2, t0, tv, li'⟩ := pair li (okp_open C hs gi y1 y2 b2.2)
    have w9 : f_L_open (some 0) y1 y2 (some 38) S = some ((0, code, none), S2) := by
      unfold f_L_open
      rw [fk_0 f, gd_1]
      exact e1
    refine ⟨S7, G', ?_, li'⟩
    rw [if_pos c14, K1, Option.bind_some, A1, Option.bind_some, K2, Option.bind_some, A2, Option.bind_some, w9, cM_s, Option.bind_some, A1, Option.bind_some, Option.bind_some, A2, Option.bind_some, fk_14 f2, gd_1, e2, cM_s] at hR9
    rw [hR9, ← nx]
    exact tlI_ok (nx := NX L xs n k) li'.2.1 t0 (fun q => (tv q).1)
  rw [if_neg c14] at hR9
  by_cases c15 : y0 % 32 = 15
  · obtain ⟨code, v, S2, S7, G', -, e1, f2, e2, t0, tv, li'⟩ := pair li (okp_alike C hs gi y1 y2)
    have w9 : f_L_alike (some 0) y1 y2 (some 38) S = some ((0, code, none), S2) := by
      unfold f_L_alike
      rw [fk_0 f, gd_1]
      exact e1 trivial
    refine ⟨S7, G', ?_, li'⟩
    rw [if_pos c15, K1, Option.bind_some, A1, Option.bind_some, K2, Option.bind_some, A2, Option.bind_some, w9, cM_s, Option.bind_some, A1, Option.bind_some, Option.bind_some, A2, Option.bind_some, fk_14 f2, gd_1, e2, cM_s] at hR9
    rw [hR9, ← nx]
    exact tlZ_ok (nx := NX L xs n k) li'.2.1 t0 (fun q => ⟨(tv q).1, (tv q).2 trivial⟩)
  rw [if_neg c15] at hR9
  by_cases c16 : y0 % 32 = 16
  · obtain ⟨code, v, S2, S7, G', e1, -, f2, e2, t0, tv, li'⟩ := pair li (okp_count C hs gi y1 y2)
    have w9 : f_L_count (some 0) y1 y2 (some 38) S = some ((0, code, none), S2) := by
      unfold f_L_count
      rw [fk_0 f, gd_1]
      exact e1
    refine ⟨S7, G', ?_, li'⟩
    rw [if_pos c16, K1, Option.bind_some, A1, Option.bind_some, K2, Option.bind_some, A2, Option.bind_some, w9, cM_s, Option.bind_some, A1, Option.bind_some, Option.bind_some, A2, Option.bind_some, fk_14 f2, gd_1, e2, cM_s] at hR9
    rw [hR9, ← nx]
    exact tlI_ok (nx := NX L xs n k) li'.2.1 t0 (fun q => (tv q).1)
  rw [if_neg c16] at hR9
  by_cases c17 : y0 % 32 = 17
  · obtain ⟨code, v, S2, S7, G', e1, -, f2, e2, t0, tv, li'⟩ := pair li (okp_moduleOf C hs gi y1 y2)
    have w9 : f_L_moduleOf (some 0) y1 y2 (some 38) S = some ((0, code, none), S2) := by
      unfold f_L_moduleOf
      rw [fk_0 f, gd_1]
      exact e1
    refine ⟨S7, G', ?_, li'⟩
    rw [if_pos c17, K1, Option.bind_some, A1, Option.bind_some, K2, Option.bind_some, A2, Option.bind_some, w9, cM_s, Option.bind_some, A1, Option.bind_some, Option.bind_some, A2, Option.bind_some, fk_14 f2, gd_1, e2, cM_s] at hR9
    rw [hR9, ← nx]
    exact tlI_ok (nx := NX L xs n k) li'.2.1 t0 (fun q => (tv q).1)
  rw [if_neg c17] at hR9
  by_cases c18 : y0 % 32 = 18
  · obtain ⟨S1, S7, e1, f1, e2, li'⟩ := pair0 li ((x_modules C hs).cx C) (mdl := fun T => f_X6_modules (some 14) T) (fun T fT gT => m_modules fT gT) gi (by omega)
    refine ⟨S7, G, ?_, li'⟩
    rw [if_pos c18, fk_0 f, gd_1, e1, cM_s, fk_14 f1, gd_1, e2, cM_s, if_pos rfl] at hR9
    rw [hR9, ← nx]
    rfl
  rw [if_neg c18] at hR9
  by_cases c19 : y0 % 32 = 19
  · obtain ⟨S1, S7, e1, f1, e2, li'⟩ := pair0 li ((x_kinds C hs gi).cx C) (mdl := fun T => f_X6_kinds (some 14) T) (fun T fT gT => m_kinds fT gT gi) gi (by omega)
    refine ⟨S7, G, ?_, li'⟩
    rw [if_pos c19, fk_0 f, gd_1, e1, cM_s, fk_14 f1, gd_1, e2, cM_s, if_pos rfl] at hR9
    rw [hR9, ← nx]
    rfl
  rw [if_neg c19] at hR9
  by_cases c20 : y0 % 32 = 20
  · obtain ⟨S1, S7, e1, f1, e2, li'⟩ := pair0 li (x_clear C hs) (mdl := fun T => f_X6_clear (some 14) T) (fun T fT gT => m_clear fT gT) gi.clear (by rw [uq_ne (by omega)]; omega)
    refine ⟨S7, _, ?_, li'⟩
    rw [if_pos c20, fk_0 f, gd_1, e1, cN_s, fk_14 f1, gd_1, e2, cN_s] at hR9
    rw [hR9, ← nx]
    rfl
  rw [if_neg c20] at hR9
  refine ⟨S, G, ?_, ⟨sh, ins, pl, nt, wy, tg, C⟩, f, ⟨nb.1, by omega, by omega⟩, g, gi, by omega⟩
  rw [hR9, ← nx]
  rfl
theorem law_loop {L : Nat} (hL : L ≤ 2560) (xs : Nat → Int32) : ∀ (d k c fu : Nat) (S : AS) (G : Nat → Nat → Int), k = 5 * c → k ≤ L → L < k + 5 * (d + 1) → d < fu → Li c G S → ∃ S' : AS, f_L_law_23 L xs fu (some 0) (some 14) (some 38) k S = some ((0, 1, none), S') := by
  intro d
  induction d with
  | zero =>
    intro k c fu S G hkc hkL hd hf li
    obtain ⟨fu, rfl⟩ : ∃ z, fu = z + 1 := ⟨fu - 1, by omega⟩
    refine ⟨S, ?_⟩
    unfold f_L_law_23
    rw [chk_ok (by omega) (by omega), Option.bind_some, if_pos (by omega), rI_s]
  | succ d ih =>
    intro k c fu S G hkc hkL hd hf li
    obtain ⟨fu, rfl⟩ : ∃ z, fu = z + 1 := ⟨fu - 1, by omega⟩
    by_cases c5 : k + 5 ≤ L
    · obtain ⟨S', G', e, li'⟩ := law_step hL xs hkc c5 li fu
      rw [e]
      exact ih (k + 5) (c + 1) fu S' G' (by omega) c5 (by omega) (by omega) li'
    · refine ⟨S, ?_⟩
      unfold f_L_law_23
      rw [chk_ok (by omega) (by omega), Option.bind_some, if_pos (by omega), rI_s]
theorem law_pure (L : Nat) (hL : L ≤ 2560) (xs : Nat → Int32) : ∃ S' : AS, f_L_law L xs S00 = some ((0, 1, none), S') := by
  rw [law_pre, pre_SI]
  exact law_loop hL xs 512 0 0 FU SI (hI SI) rfl (Nat.zero_le _) (by omega) (FU_gt (by decide)) Li_0
end
