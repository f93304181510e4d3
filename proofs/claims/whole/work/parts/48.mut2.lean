/-! net, join, part, clear: the calls -/
variable {sh ins : Nat → Nat} {pl nt wy : Nat → Nat → Nat} {tg : Nat → Nat × Nat}
section
variable {G : Nat → Nat → Int} {S : AS}
theorem Fr.w {S T : AS} (h : Fr S T) {a k : Nat} {v : Int} (ha : 39 ≤ a) : Fr S (wI T a k v) := ⟨fun b j h1 h2 => by rw [hI_wI, if_neg (by omega)]; exact h.1 b j h1 h2, h.2.wI _ _ _⟩
theorem x_net (C : Cls sh ins pl nt wy tg G S) (hs : Stt S) (gi : GI G) (hb : G 14 9 ≤ 1000) (x : Int) : (¬ (0 ≤ x ∧ x < G 14 1) → CO S (f_X5_net (some 0) x S) 1 0) ∧ ((0 ≤ x ∧ x < G 14 1) → G 20 x.toNat = 128 → CO S (f_X5_net (some 0) x S) 2 0) ∧ ((0 ≤ x ∧ x < G 14 1) → G 20 x.toNat ≠ 128 → CX S (f_X5_net (some 0) x S) 0 (G 20 x.toNat) (uq (chg G x.toNat) 20 x.toNat (G 20 x.toNat + 1))) := by
  have h := hs.1
  have k0 := fk_0 h
  refine ⟨fun hx => ?_, fun hx hq => ?_, fun hx hq => ?_⟩
  · unfold f_X5_net
    rw [gd_t k0, shellAt_f C h hx, cR_X]
    exact CO.x (Sc.rfl' S) hs
  · unfold f_X5_net
    rw [gd_t k0, shellAt_t C h gi hx, cR_s, c_in C (by omega), Option.bind_some, c_a3 C (by omega), Option.bind_some, if_pos hq]
    exact CO.x (Sc.rfl' S) hs
  · obtain ⟨m, rfl⟩ : ∃ m : Nat, x = m := ⟨x.toNat, by omega⟩
    rw [tn] at hq ⊢
    have hm : (m : Int) < G 14 1 := hx.2
    obtain ⟨S', ins', pl', nt', wy', tg', e, C', al1, fr, bd, hh, -⟩ := itc C hs gi hm
    have gi' := gi.chg (m := m) hb
    have e1 : chg G m 14 1 = G 14 1 := chg_o (by omega)
    have e20 : chg G m 20 m = G 20 m := chg_o (by omega)
    have hm' : (m : Int) < chg G m 14 1 := by rw [e1]; exact hm
    have kA := (C'.ia hm').2.1.1
    have lA := (C'.ia hm').1
    have nn := gi.nn hm
    refine ⟨wI S' (ins' m) 3 (G 20 m + 1), sh, ins', pl', nt', wy', tg', ?_, C'.net gi' hm' (fun j hj hne => al1 j (by rw [e1] at hj; exact hj) hne) _, fr.w lA.1, ⟨by have := bd.1; show hn S' ≤ _; omega, by have := bd.2; show hu S' ≤ _; omega⟩, hh⟩
    unfold f_X5_net
    rw [gd_t k0, shellAt_t C h gi hx, cR_s, tn, c_in C hm, Option.bind_some, c_a3 C hm, Option.bind_some, if_neg hq, e, cR_s, c_k1 C' hm', gd_1]
    unfold f_X0_addNet
    rw [c_a3 C' hm', Option.bind_some, e20, chk_ok (by omega) (by omega), Option.bind_some, pI_at kA, Option.bind_some, gI_at (S := wI S' (ins' m) 3 (G 20 m + 1)) kA, Option.bind_some, hI_w0, chk_ok (by omega) (by omega), Option.bind_some, rI_s, cI_s, rI_s, Int.add_sub_cancel]
theorem moveTo_eq (C : Cls sh ins pl nt wy tg G S) (hs : Stt S) (gi : GI G) (hb : G 14 9 ≤ 1000) {m : Nat} {v y z : Int} (hm : (m : Int) < G 14 1) (hp : isPn G m y z) : (qn G m (y + 1).toNat z.toNat = v → f_X5_moveTo v (some (sh m)) y z S = some ((0, 0, none), S)) ∧ (qn G m (y + 1).toNat z.toNat ≠ v → CX S (f_X5_moveTo v (some (sh m)) y z S) 0 1 (jn G m (y + 1).toNat z.toNat v)) := by
  have en := netAt_t C gi hm hp
  constructor
  · intro hv
    unfold f_X5_moveTo
    rw [en, cI_s, if_pos hv, rZ_0]
  · intro hv
    obtain ⟨S', ins', pl', nt', wy', tg', e, C', al1, fr, bd, hh, -⟩ := itc C hs gi hm
    have gi' := gi.chg (m := m) hb
    have hG : ∀ a j, a ≠ 21 → (a = 14 → j ≠ 9) → chg G m a j = G a j := fun a j z1 z2 => chg_o ⟨z1, z2⟩
    have e1 : chg G m 14 1 = G 14 1 := hG 14 1 (by omega) (by omega)
    have hm' : (m : Int) < chg G m 14 1 := by rw [e1]; exact hm
    obtain ⟨hx, hy, hz⟩ := hp
    rw [tn] at hy hz
    have hj : (((y + 1).toNat : Nat) : Int) ≤ G 18 m := by omega
    have hj' : (((y + 1).toNat : Nat) : Int) ≤ chg G m 18 m := by rw [hG 18 m (by omega) (by omega)]; exact hj
    have ejm : jm (chg G m) m (y + 1).toNat = jm G m (y + 1).toNat := by unfold jm fo; rw [hG 19 _ (by omega) (by omega)]
    have enp : np (chg G m) m (y + 1).toNat = np G m (y + 1).toNat := by
      unfold np
      rw [ejm, pc_congr (PA.of (fun a j ha => hG a j (by omega) (by omega))) (gi.pw (jm_lt gi hm hj)).1]
    have l1 := np_le gi hm hj
    have hpp : z.toNat < np (chg G m) m (y + 1).toNat := by rw [enp]; omega
    obtain ⟨k1, k2, k3, k4, k5⟩ := na_k C' gi' hm' hj'
    have ll := nl_np gi' hm' hj'
    have eno := c_no C' gi' hm' hj'
    rw [show (((y + 1).toNat : Nat) : Int) - 1 = y by omega] at eno
    refine ⟨wI S' (na ins' nt' m (y + 1).toNat) z.toNat v, sh, ins', pl', nt', wy', tg', ?_, C'.join gi' hm' hj' hpp (fun j hj hne => al1 j (by rw [e1] at hj; exact hj) hne) v, fr.w k4, ⟨by have := bd.1; show hn S' ≤ _; omega, by have := bd.2; show hu S' ≤ _; omega⟩, hh⟩
    unfold f_X5_moveTo
    rw [en, cI_s, if_neg hv, e, cR_s, c_k1 C' hm', gd_1, eno, cR_s, sI_at k1 hz.1 (by rw [k2]; omega), Option.bind_some, rZ_1]
theorem x_join (C : Cls sh ins pl nt wy tg G S) (hs : Stt S) (gi : GI G) (hb : G 14 9 ≤ 1000) (x v y z : Int) : (¬ (isPn G x y z ∧ 0 ≤ v ∧ v < G 20 x.toNat) → CO S (f_X5_join (some 0) x v y z S) 1 0) ∧ ((isPn G x y z ∧ 0 ≤ v ∧ v < G 20 x.toNat) → (qn G x.toNat (y + 1).toNat z.toNat = v → CO S (f_X5_join (some 0) x v y z S) 0 0) ∧ (qn G x.toNat (y + 1).toNat z.toNat ≠ v → CX S (f_X5_join (some 0) x v y z S) 0 1 (jn G x.toNat (y + 1).toNat z.toNat v))) := by
  have h := hs.1
  have k0 := fk_0 h
  constructor
  · intro hn
    unfold f_X5_join
    rw [gd_t k0]
    by_cases hx : 0 ≤ x ∧ x < G 14 1
    · obtain ⟨m, rfl⟩ : ∃ m : Nat, x = m := ⟨x.toNat, by omega⟩
      rw [tn] at hn
      rw [shellAt_t C h gi hx, cR_s, tn]
      by_cases hv : 0 ≤ v ∧ v < G 20 m
      · have hp : ¬ isPn G m y z := fun q => hn ⟨q, hv⟩
        rw [reqNet_t C hx.2 hv, cV_s]
        unfold f_X5_moveTo
        rw [netAt_f C gi hx.2 hp, cI_X, cI_X]
        exact CO.x (Sc.rfl' S) hs
      · rw [reqNet_f C hx.2 hv, cV_X]
        exact CO.x (Sc.rfl' S) hs
    · rw [shellAt_f C h hx, cR_X]
      exact CO.x (Sc.rfl' S) hs
  · intro hp
    have hx := hp.1.1
    obtain ⟨m, rfl⟩ : ∃ m : Nat, x = m := ⟨x.toNat, by omega⟩
    rw [tn] at hp ⊢
    obtain ⟨q1, q2⟩ := moveTo_eq C hs gi hb (v := v) hx.2 hp.1
    unfold f_X5_join
    rw [gd_t k0, shellAt_t C h gi hx, cR_s, tn, reqNet_t C hx.2 hp.2, cV_s]
    constructor
    · intro hv
      rw [q1 hv, cI_s, rZ_0]
      exact CO.v (Sc.rfl' S) hs
    · intro hv
      obtain ⟨S', sh', ins', pl', nt', wy', tg', e, r⟩ := q2 hv
      rw [e, cI_s, rZ_1]
      exact ⟨S', sh', ins', pl', nt', wy', tg', rfl, r⟩
theorem x_part (C : Cls sh ins pl nt wy tg G S) (hs : Stt S) (gi : GI G) (hb : G 14 9 ≤ 1000) (x y z : Int) : (¬ isPn G x y z → CO S (f_X5_part (some 0) x y z S) 1 0) ∧ (isPn G x y z → (qn G x.toNat (y + 1).toNat z.toNat = -1 → CO S (f_X5_part (some 0) x y z S) 0 0) ∧ (qn G x.toNat (y + 1).toNat z.toNat ≠ -1 → CX S (f_X5_part (some 0) x y z S) 0 1 (jn G x.toNat (y + 1).toNat z.toNat (-1)))) := by
  have h := hs.1
  have k0 := fk_0 h
  constructor
  · intro hp
    unfold f_X5_part
    rw [gd_t k0]
    by_cases hx : 0 ≤ x ∧ x < G 14 1
    · obtain ⟨m, rfl⟩ : ∃ m : Nat, x = m := ⟨x.toNat, by omega⟩
      rw [shellAt_t C h gi hx, cR_s, tn]
      unfold f_X5_moveTo
      rw [netAt_f C gi hx.2 hp, cI_X, cI_X]
      exact CO.x (Sc.rfl' S) hs
    · rw [shellAt_f C h hx, cR_X]
      exact CO.x (Sc.rfl' S) hs
  · intro hp
    have hx := hp.1
    obtain ⟨m, rfl⟩ : ∃ m : Nat, x = m := ⟨x.toNat, by omega⟩
    rw [tn]
    obtain ⟨q1, q2⟩ := moveTo_eq C hs gi hb (v := -1) hx.2 hp
    unfold f_X5_part
    rw [gd_t k0, shellAt_t C h gi hx, cR_s, tn]
    constructor
    · intro hv
      rw [q1 hv, cI_s, rZ_0]
      exact CO.v (Sc.rfl' S) hs
    · intro hv
      obtain ⟨S', sh', ins', pl', nt', wy', tg', e, r⟩ := q2 hv
      rw [e, cI_s, rZ_1]
      exact ⟨S', sh', ins', pl', nt', wy', tg', rfl, r⟩
theorem x_clear (C : Cls sh ins pl nt wy tg G S) (hs : Stt S) : CX S (f_X5_clear (some 0) S) 0 0 (uq G 14 1 0) := by
  refine ⟨wI S 0 1 0, sh, ins, pl, nt, wy, tg, ?_, ⟨?_, fun i hi => ?_, fun i j hi hj => ?_⟩, ⟨fun a j h1 h2 => ?_, hs.1.wI _ _ _⟩, ⟨by rw [hn_wI]; omega, by rw [hu_wI]; omega⟩, Nat.le_refl _⟩
  · unfold f_X5_clear
    rw [fp_0 hs.1, Option.bind_some, rV_s]
  · rw [hI_w0, uq_at]
  · rw [uq_at] at hi; omega
  · rw [uq_at] at hi; omega
  · rw [hI_wI, if_neg (by omega)]
end
