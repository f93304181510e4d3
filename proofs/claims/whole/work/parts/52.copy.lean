/-! copy -/
variable {sh ins : Nat → Nat} {pl nt wy : Nat → Nat → Nat} {tg : Nat → Nat × Nat}
section
variable {G : Nat → Nat → Int} {S : AS}
theorem bg_out {t a j : Nat} (h : (a = 14 → j ≠ 9) ∧ (a = 22 → j < 8320 * t) ∧ (a = 23 → j < 64 * t) ∧ (j = t → a ≠ 15 ∧ a ≠ 18 ∧ a ≠ 20 ∧ a ≠ 21)) : bg G t a j = G a j := by
  unfold bg fl
  rw [if_neg (by omega), if_neg (by omega), uq_ne (by omega), uq_ne (by omega), uq_ne (by omega), uq_ne (by omega), uq_ne (by omega)]
theorem cp_out {m t a j : Nat} (h : a ≠ 14 ∧ (a = 16 → j < 16 * t) ∧ (a = 17 → j < 16 * t) ∧ (a = 22 → j < 8320 * t) ∧ (a = 19 → j < 64 * t) ∧ (a = 23 → j < 64 * t) ∧ (a = 24 → j < 1536 * t) ∧ (j = t → a ≠ 15 ∧ a ≠ 18 ∧ a ≠ 20 ∧ a ≠ 21)) : cpG G m t a j = G a j := by
  unfold cpG cq
  rw [if_neg (by omega), if_neg (by omega), if_neg (by omega), if_neg (by omega), uq_ne (by omega), uq_ne (by omega), uq_ne (by omega), uq_ne (by omega), uq_ne (by omega), bg_out (by omega)]
theorem cp_t {m t : Nat} (hm : m < t) : (cpG G m t 15 t = G 15 m ∧ cpG G m t 18 t = G 18 m ∧ cpG G m t 20 t = G 20 m ∧ cpG G m t 21 t = G 21 m ∧ cpG G m t 14 9 = G 14 9 + 1 ∧ cpG G m t 14 1 = G 14 1 + 1) ∧ (∀ k, k < 16 → cpG G m t 16 (16 * t + k) = G 16 (16 * m + k) ∧ cpG G m t 17 (16 * t + k) = G 17 (16 * m + k)) ∧ (∀ q, q < 8320 → cpG G m t 22 (8320 * t + q) = G 22 (8320 * m + q)) ∧ (∀ k, k < 64 → cpG G m t 19 (64 * t + k) = G 19 (64 * m + k) ∧ cpG G m t 23 (64 * t + k) = G 23 (64 * m + k)) ∧ ∀ q, q < 1536 → cpG G m t 24 (1536 * t + q) = G 24 (1536 * m + q) := by
  obtain ⟨⟨b1, b2, b3, b4, b5⟩, b6, b7⟩ := bg_t (G := G) (t := t)
  refine ⟨⟨?_, ?_, ?_, ?_, ?_, ?_⟩, fun k hk => ⟨?_, ?_⟩, fun q hq => ?_, fun k hk => ⟨?_, ?_⟩, fun q hq => ?_⟩
  · unfold cpG cq
    rw [if_neg (by omega), if_neg (by omega), if_neg (by omega), if_neg (by omega), uq_ne (by omega), uq_ne (by omega), uq_ne (by omega), uq_at]
  · unfold cpG cq
    rw [if_neg (by omega), if_neg (by omega), if_neg (by omega), if_neg (by omega), uq_ne (by omega), uq_ne (by omega), uq_at]
  · unfold cpG cq
    rw [if_neg (by omega), if_neg (by omega), if_neg (by omega), if_neg (by omega), uq_ne (by omega), uq_at]
  · unfold cpG cq
    rw [if_neg (by omega), if_neg (by omega), if_neg (by omega), if_neg (by omega), uq_at]
  · unfold cpG cq
    rw [if_neg (by omega), if_neg (by omega), if_neg (by omega), if_neg (by omega), uq_ne (by omega), uq_ne (by omega), uq_ne (by omega), uq_ne (by omega), uq_ne (by omega), b5]
  · unfold cpG cq
    rw [if_neg (by omega), if_neg (by omega), if_neg (by omega), if_neg (by omega), uq_ne (by omega), uq_ne (by omega), uq_ne (by omega), uq_ne (by omega), uq_at]
  · unfold cpG cq
    rw [if_neg (by omega), if_neg (by omega), if_neg (by omega), if_pos (by omega), uq_ne (by omega), uq_ne (by omega), uq_ne (by omega), uq_ne (by omega), uq_ne (by omega), bg_out (by omega)]
    congr 1; omega
  · unfold cpG cq
    rw [if_neg (by omega), if_neg (by omega), if_neg (by omega), if_pos (by omega), uq_ne (by omega), uq_ne (by omega), uq_ne (by omega), uq_ne (by omega), uq_ne (by omega), bg_out (by omega)]
    congr 1; omega
  · unfold cpG cq
    rw [if_neg (by omega), if_neg (by omega), if_pos (by omega), if_neg (by omega), uq_ne (by omega), uq_ne (by omega), uq_ne (by omega), uq_ne (by omega), uq_ne (by omega), bg_out (by omega)]
    congr 1; omega
  · unfold cpG cq
    rw [if_neg (by omega), if_pos (by omega), if_neg (by omega), if_neg (by omega), uq_ne (by omega), uq_ne (by omega), uq_ne (by omega), uq_ne (by omega), uq_ne (by omega), bg_out (by omega)]
    congr 1; omega
  · unfold cpG cq
    rw [if_neg (by omega), if_pos (by omega), if_neg (by omega), if_neg (by omega), uq_ne (by omega), uq_ne (by omega), uq_ne (by omega), uq_ne (by omega), uq_ne (by omega), bg_out (by omega)]
    congr 1; omega
  · unfold cpG cq
    rw [if_pos (by omega), if_neg (by omega), if_neg (by omega), if_neg (by omega), uq_ne (by omega), uq_ne (by omega), uq_ne (by omega), uq_ne (by omega), uq_ne (by omega), bg_out (by omega)]
    congr 1; omega
/-- module t of G' has the ports of module m of G -/
def P2 (G G' : Nat → Nat → Int) (m t : Nat) : Prop := G' 15 t = G 15 m ∧ ∀ k : Nat, (k : Int) < G 15 m → G' 16 (16 * t + k) = G 16 (16 * m + k) ∧ G' 17 (16 * t + k) = G 17 (16 * m + k)
theorem pcs_p2 {G G' : Nat → Nat → Int} {m t : Nat} (h : P2 G G' m t) : ∀ k : Nat, (k : Int) ≤ G 15 m → pcs G' t k = pcs G m k := by
  intro k
  induction k with
  | zero => intro _; rfl
  | succ k ih =>
    intro hk
    unfold pcs
    rw [ih (by omega), (h.2 k (by omega)).1]
theorem pc_p2 {G G' : Nat → Nat → Int} {m t : Nat} (h : P2 G G' m t) (h0 : 0 ≤ G 15 m) : pc G' t = pc G m := by
  unfold pc
  rw [h.1]
  exact pcs_p2 h _ (by omega)
theorem ob_p2 {G G' : Nat → Nat → Int} {m t : Nat} (h : P2 G G' m t) (h0 : 0 ≤ G 15 m) (q : Int) : ob G' t q = ob G m q := by
  unfold ob
  rw [h.1]
  have : ∀ k : Nat, (k : Int) ≤ G 15 m → obk G' t q k = obk G m q k := by
    intro k
    induction k with
    | zero => intro _; rfl
    | succ k ih =>
      intro hk
      unfold obk
      rw [pcs_p2 h k (by omega), ih (by omega), (h.2 k (by omega)).2]
  exact this _ (by omega)
theorem P2.pw {G G' : Nat → Nat → Int} {m t : Nat} (h : P2 G G' m t) (w : PW G m) : PW G' t := by
  refine ⟨by rw [h.1]; exact w.1, by rw [h.1]; exact w.2.1, fun k hk => ?_⟩
  rw [h.1] at hk
  rw [(h.2 k hk).1, (h.2 k hk).2]
  exact w.2.2 k hk
theorem cp_ad (gi : GI G) {m t : Nat} (ht : G 14 1 = t) (hm : m < t) : Ad G (cpG G m t) t := by
  obtain ⟨⟨c1, c2, c3, c4, c5, c6⟩, c7, c8, c9, c10⟩ := cp_t (G := G) hm
  have pa : ∀ x, x < t → G 15 x ≤ 16 → PA G (cpG G m t) x := fun x hx hp => ⟨cp_out (by omega), fun k hk => ⟨cp_out (by omega), cp_out (by omega)⟩⟩
  refine ⟨⟨ht, by rw [c6, ht]⟩, fun i hi => ?_, by rw [c5]; omega⟩
  have hi' : (i : Int) < G 14 1 := by omega
  have ni := gi.ni hi'
  have w := gi.pw hi'
  have e22 : ∀ q, q < 8320 → cpG G m t 22 (8320 * i + q) = G 22 (8320 * i + q) := fun q hq => cp_out (by omega)
  refine ⟨⟨pa i hi w.2.1, ⟨cp_out (by omega), cp_out (by omega)⟩, fun q hq => ?_, fun k hk => ⟨cp_out (by omega), cp_out (by omega), fun u hu => cp_out (by omega), fun q hq => ?_, pa _ ?_ ?_⟩⟩, ⟨pa i hi w.2.1, ⟨cp_out (by omega), cp_out (by omega)⟩, fun k hk => ⟨cp_out (by omega), cp_out (by omega)⟩, e22, ?_, by rw [c6]; omega⟩, cp_out (by omega)⟩
  · have := e22 (8192 + q) (by omega)
    rw [← Nat.add_assoc] at this
    exact this
  · have := e22 (128 * k + q) (by omega)
    rw [← Nat.add_assoc] at this
    exact this
  · have := (gi.fv hi' hk).2
    omega
  · exact (gi.pw (gi.fv hi' hk).2).2.1
  · rw [c5, cp_out (by omega)]
    have := (gi.at hi').2.2.2.2.2.2.2
    omega
theorem cp_p2 (gi : GI G) {m t : Nat} (ht : G 14 1 = t) (hm : m < t) : P2 G (cpG G m t) m t := by
  obtain ⟨⟨c1, c2, c3, c4, c5, c6⟩, c7, c8, c9, c10⟩ := cp_t (G := G) hm
  have w := (gi.pw (i := m) (by omega)).2.1
  exact ⟨c1, fun k hk => c7 k (by omega)⟩
theorem GI.copy (gi : GI G) {m t : Nat} (ht : G 14 1 = t) (ht24 : t < 24) (hm : m < t) (hb : G 14 9 ≤ 1000) : GI (cpG G m t) := by
  obtain ⟨⟨c1, c2, c3, c4, c5, c6⟩, c7, c8, c9, c10⟩ := cp_t (G := G) hm
  have ad := cp_ad gi ht hm
  have p2 := cp_p2 gi ht hm
  have hm' : (m : Int) < G 14 1 := by omega
  obtain ⟨q1, q2, q3, q4, q5, q6, q7, q8⟩ := gi.at hm'
  have efo : ∀ k, k < 64 → fo (cpG G m t) t k = fo G m k := fun k hk => by unfold fo; rw [(c9 k hk).1]
  refine gi.ad ad ht24 (by rw [c5]; omega) (fun j => ?_) ⟨p2.pw q1, by rw [c2]; exact q2, by rw [c3]; exact q3, fun k hk => ?_, fun q hq => ?_, fun k q hk hq => ?_, fun k hk => ?_, by rw [c4, c5]; omega⟩ (fun k hk => ?_)
  · by_cases c : 16 * t ≤ j ∧ j < 16 * t + 16
    · have := (c7 (j - 16 * t) (by omega)).2
      rw [show 16 * t + (j - 16 * t) = j by omega] at this
      rw [this]
      exact gi.2.2.2.2 _
    · by_cases c2 : j < 16 * t
      · rw [cp_out (by omega)]
        exact gi.2.2.2.2 _
      · have : cpG G m t 17 j = G 17 j := by
          unfold cpG cq
          rw [if_neg (by omega), if_neg (by omega), if_neg (by omega), if_neg (by omega), uq_ne (by omega), uq_ne (by omega), uq_ne (by omega), uq_ne (by omega), uq_ne (by omega), bg_out (by omega)]
        rw [this]
        exact gi.2.2.2.2 _
  · rw [c2] at hk
    rw [(c9 k (by omega)).1, c6]
    have := q4 k hk
    omega
  · have := c8 (8192 + q) (by omega)
    rw [← Nat.add_assoc, ← Nat.add_assoc] at this
    rw [this, c3, pc_p2 p2 q1.1]
    exact q5 q hq
  · have := c8 (128 * k + q) (by omega)
    rw [← Nat.add_assoc, ← Nat.add_assoc] at this
    rw [this, c3, c2]
    exact q6 k q hk hq
  · rw [c2] at hk
    rw [(c9 k (by omega)).2]
    exact q7 k hk
  · rw [c2] at hk
    rw [efo k (by omega)]
    have := (gi.fv hm' hk).2
    omega
theorem x_copy (C : Cls sh ins pl nt wy tg G S) (hs : Stt S) (gi : GI G) (x : Int) : (¬ (0 ≤ x ∧ x < G 14 1) → CO S (f_X5_copy (some 0) x S) 1 0) ∧ ((0 ≤ x ∧ x < G 14 1) → G 14 1 = 24 → CO S (f_X5_copy (some 0) x S) 2 0) ∧ ((0 ≤ x ∧ x < G 14 1) → G 14 1 ≠ 24 → CX S (f_X5_copy (some 0) x S) 0 (G 14 1) (cpG G x.toNat (G 14 1).toNat)) := by
  have h := hs.1
  have k0 := fk_0 h
  have h39 := hs.2.1
  have rm := hs.2.2
  have h1 := gi.1
  refine ⟨fun hx => ?_, fun hx h24 => ?_, fun hx h24 => ?_⟩
  · unfold f_X5_copy
    rw [gd_t k0, shellAt_f C h hx, cR_X]
    exact CO.x (Sc.rfl' S) hs
  · unfold f_X5_copy f_X5_requireRoomForModule
    rw [gd_t k0, shellAt_t C h gi hx, cR_s, gd_t k0, c_n C h, Option.bind_some, if_pos h24, cV_X]
    exact CO.x (Sc.rfl' S) hs
  · obtain ⟨m, rfl⟩ : ∃ m : Nat, x = m := ⟨x.toNat, by omega⟩
    obtain ⟨t, ht⟩ : ∃ t : Nat, (G 14 1).toNat = t := ⟨_, rfl⟩
    rw [tn, ht]
    have et : G 14 1 = (t : Int) := by omega
    have hm : (m : Int) < G 14 1 := hx.2
    have hmt : m < t := by omega
    have ad := cp_ad gi et hmt
    have p2 := cp_p2 gi et hmt
    obtain ⟨⟨c1, c2, c3, c4, c5, c6⟩, c7, c8, c9, c10⟩ := cp_t (G := G) hmt
    obtain ⟨⟨m1, m2⟩, ms, ma, mt, mp⟩ := C.mo hm
    have ms' := ms
    have ma' := ma
    obtain ⟨s1, s2, s3, s4, s5, s6, s7, s8⟩ := ms
    obtain ⟨a1, a2, a3, a4, a5, a6⟩ := ma
    obtain ⟨s, hsn⟩ : ∃ s, hn S = s := ⟨_, rfl⟩
    have cJ24 : cJ G m ≤ 24 := by
      have := cnt_le (fun j => decide (G 21 j = G 21 m)) (G 14 1).toNat
      have e : cJ G m = cnt (fun j => decide (G 21 j = G 21 m)) (G 14 1).toNat := rfl
      omega
    have f10 : Fix (wI S (ins m) 4 ((cJ G m : Int) + 1)) := h.wI _ _ _
    obtain ⟨T, eT, ⟨nT, uT⟩, oT, fT, i01, r1, z0⟩ := newShell (S := wI S (ins m) 4 ((cJ G m : Int) + 1)) (n := t) (a := some (ins m)) f10 (by rw [hn_wI]; omega) (by rw [hn_wI]; have := rm.1; omega) (by rw [hu_wI]; have := rm.2; omega) (by rw [hI_wI, if_neg (by omega), C.1, et]) (by omega)
    rw [hn_wI, hsn] at eT nT oT r1 z0
    rw [hu_wI] at uT
    obtain ⟨⟨z1, z2, z3⟩, ⟨z4, z5⟩, ⟨z6, z7, z8⟩, ⟨z9, z10, z11, z12⟩, z13, z14⟩ := z0
    have oS : ∀ x, 39 ≤ x → x < s → x ≠ ins m → Od x S T := fun x h1 h2 h3 => (Od.w h3).tr (oT x h2 (by omega) (by omega))
    have kk : ∀ x, 39 ≤ x → x < s → hk S x ≠ 1 → Od x S T := fun x h1 h2 h3 => oS x h1 h2 (fun q => h3 (by rw [q]; exact a2.1))
    have o0 := kk (sh m) (by omega) (by omega) (by rw [s2.1]; decide)
    have o1 := kk (sh m + 1) (by omega) (by omega) (by rw [s2.2.1]; decide)
    have o2 := kk (sh m + 2) (by omega) (by omega) (by rw [s2.2.2]; decide)
    obtain ⟨V, eV, ⟨nV, uV, kV, lV, rV⟩, v1, v2, v3, v4⟩ := takePorts_eq (S := T) (s := s) (f := sh m) (by omega) ⟨z1, z2, z3⟩ ⟨z4, z5⟩ ⟨z6, z7⟩ (by rw [o0.1, o1.1, o2.1]; exact s2) (by rw [o1.2.1, o2.2.1]; exact s3) (by rw [o0.2.2.2, o0.2.2.2]; exact s4)
    have fV : Fix V := ⟨fun a ha => by rw [kV, lV]; exact fT.1 a ha, fun r hr => by rw [rV]; exact fT.2 r hr⟩
    have oTV : ∀ x, x < s → Od x T V := fun x hx => ⟨by rw [kV], by rw [lV], fun j => v1 x (by omega) (by omega) (by omega) j, fun j => by rw [rV]⟩
    have oV : ∀ x, 39 ≤ x → x < s → x ≠ ins m → Od x S V := fun x h1 h2 h3 => (oS x h1 h2 h3).tr (oTV x h2)
    have kkV : ∀ x, 39 ≤ x → x < s → hk S x ≠ 1 → Od x S V := fun x h1 h2 h3 => oV x h1 h2 (fun q => h3 (by rw [q]; exact a2.1))
    have saA : ∀ x, 39 ≤ x → x < s → SA S V x 4 := fun x h1 h2 => by
      have e := (oT x h2 (by omega) (by omega)).tr (oTV x h2)
      exact ⟨e.1, fun j hj => by rw [e.2.2.1, hI_wI, if_neg (by omega)], fun j => e.2.2.2 j⟩
    have i4 : ∀ x, 39 ≤ x → x < s → hI V x 4 = if x = ins m then (cJ G m : Int) + 1 else hI S x 4 := fun x h1 h2 => by
      have e := (oT x h2 (by omega) (by omega)).tr (oTV x h2)
      rw [e.2.2.1, hI_wI]
      by_cases c : x = ins m
      · rw [if_pos ⟨c, rfl⟩, if_pos c]
      · rw [if_neg (by omega), if_neg c]
    have sA := saA (ins m) (by omega) (by omega)
    obtain ⟨sh', hsh⟩ : ∃ f : Nat → Nat, ∀ i, f i = if i = t then s else sh i := ⟨_, fun _ => rfl⟩
    obtain ⟨ins', hins⟩ : ∃ f : Nat → Nat, ∀ i, f i = if i = t then ins m else ins i := ⟨_, fun _ => rfl⟩
    obtain ⟨tg', htg⟩ : ∃ f : Nat → Nat × Nat, ∀ x, f x = if x < s then tg x else (s, 0) := ⟨_, fun _ => rfl⟩
    have st : sh' t = s := by rw [hsh, if_pos rfl]
    have it : ins' t = ins m := by rw [hins, if_pos rfl]
    have efo : ∀ k, k < 64 → fo (cpG G m t) t k = fo G m k := fun k hk => by unfold fo; rw [(c9 k hk).1]
    have w := gi.pw hm
    have ni := gi.ni hm
    refine ⟨V, sh', ins', pl, nt, wy, tg', ?_, ⟨?_, fun i hi => ?_, fun i j hi hj => ?_⟩, ⟨fun b j h1 h2 => ?_, fV⟩, ⟨by rw [nV, nT]; omega, by rw [uV, uT]; omega⟩, by rw [nV, nT]; omega⟩
    · unfold f_X5_copy f_X5_requireRoomForModule
      rw [gd_t k0, shellAt_t C h gi hx, cR_s, tn, gd_t k0, c_n C h, Option.bind_some, if_neg h24, rV_s, cV_s, c_in C hm, Option.bind_some, c_a4 C hm, Option.bind_some, chk_ok (by omega) (by omega), Option.bind_some, pI_at a2.1, Option.bind_some, gR_at (S := wI S (ins m) 4 ((cJ G m : Int) + 1)) s2.1, Option.bind_some, show hR (wI S (ins m) 4 ((cJ G m : Int) + 1)) (sh m) 6 = some (ins m) from m2, fk_0 f10, gd_1, eT, cR_s, isK_at z1, gd_1, eV, cV_s, gI_at (by rw [kV]; exact z1), Option.bind_some, v2, if_neg (by omega), if_neg (by omega), z9, rI_s, et]
    · rw [(oTV 0 (by omega)).2.2.1, i01, ad.1.2]
    · rw [ad.1.2] at hi
      show MoF sh' ins' pl nt wy tg' (cpG G m t) V i
      by_cases c : i = t
      · subst c
        refine ⟨⟨by rw [rV, r1, if_pos rfl, st], by rw [st, it, rV, z8]⟩, ?_, ?_, ⟨?_, ?_⟩, fun k hk => ?_⟩
        · rw [st]
          refine ⟨⟨by omega, by omega⟩, by rw [kV]; exact ⟨z1, z2, z3⟩, by rw [lV]; exact ⟨z4, z5⟩, by rw [rV]; exact ⟨z6, z7⟩, ⟨by rw [v2, if_neg (by omega), if_neg (by omega)]; exact z9, by rw [v2, if_pos rfl, o0.2.2.1, c1]; exact s5.2.1, by rw [v2, if_neg (by omega), if_pos rfl, o0.2.2.1, pc_p2 p2 w.1]; exact s5.2.2⟩, ?_, fun k hk => ?_, fun q hq => ?_⟩
          · rw [v2, if_neg (by omega), if_neg (by omega), z12]
            refine ⟨Or.inl rfl, ⟨fun q => by omega, fun q => ?_⟩⟩
            rcases (ad.used i).mp q with ⟨j, k, q1, q2, q3⟩ | ⟨k, q1, q2⟩
            · have := (gi.fv q1 q2).2
              omega
            · rw [c2] at q1
              rw [efo k (by omega)] at q2
              have := (gi.fv hm q1).2
              omega
          · rw [v3 k hk, o1.2.2.1, s7 k hk, c1]
            by_cases cl : (k : Int) < G 15 m
            · rw [if_pos cl, if_pos cl, (c7 k hk).1]
            · rw [if_neg cl, if_neg cl]
          · rw [pc_p2 p2 w.1] at hq
            have := pc_le w
            rw [v4 q (by omega), o2.2.2.1, s8 q hq, ob_p2 p2 w.1]
        · rw [it]
          have q1 := kkV (ins m + 1) (by omega) (by omega) (by rw [a2.2.1]; decide)
          have q2 := kkV (ins m + 2) (by omega) (by omega) (by rw [a2.2.2]; decide)
          refine ⟨⟨a1.1, by omega⟩, ⟨by rw [sA.1]; exact a2.1, by rw [q1.1]; exact a2.2.1, by rw [q2.1]; exact a2.2.2⟩, ⟨by rw [q1.2.1]; exact a3.1, by rw [q2.2.1]; exact a3.2⟩, ⟨by rw [sA.2.2]; exact a4.1, by rw [sA.2.2]; exact a4.2⟩, ⟨by rw [sA.2.1 2 (by omega), c2]; exact a5.1, by rw [sA.2.1 3 (by omega), c3]; exact a5.2.1, ?_⟩, fun q hq => ?_⟩
          · rw [i4 _ (by omega) (by omega), if_pos rfl]
            unfold cJ
            rw [ad.1.2, show ((i : Int) + 1).toNat = i + 1 by omega, cnt_s, c4, ht]
            have e : cnt (fun j => decide (cpG G m i 21 j = G 21 m)) i = cnt (fun j => decide (G 21 j = G 21 m)) i := cnt_congr _ (fun k hk => by rw [(ad.2.1 k hk).2.2])
            rw [e]
            simp
          · rw [q1.2.2.1, a6 q hq]
            have := c8 (8192 + q) (by omega)
            rw [← Nat.add_assoc, ← Nat.add_assoc] at this
            rw [this]
        · rw [st, htg, if_neg (by omega)]
        · rw [it, htg, if_pos (by omega)]; exact mt.2
        · rw [c2] at hk
          have hk64 : k < 64 := by omega
          rw [it]
          obtain ⟨⟨p1, p2', p3, p4, p5, p6, p7⟩, t1, t2⟩ := mp k hk
          have lf := (gi.fv hm hk).2
          have wf := gi.pw lf
          have lw := (gi.at hm).2.2.2.2.2.2.1 k hk
          have ef := efo k hk64
          have pf5 := pc_le wf
          have paf : PA G (cpG G m i) (fo G m k) := (ad.2.1 (fo G m k) (by omega)).1.1
          have q2 := kkV (ins m + 2) (by omega) (by omega) (by rw [a2.2.2]; decide)
          have op := kkV (pl (ins m) k) (by omega) (by omega) (by rw [p2'.2.2]; decide)
          have on := kkV (nt (ins m) k) (by omega) (by omega) (by rw [p4.2.2.1]; decide)
          have ow := kkV (wy (ins m) k) (by omega) (by omega) (by rw [p5.2.2]; decide)
          refine ⟨⟨by rw [q2.2.2.2]; exact p1, ⟨p2'.1, by omega, by rw [op.1]; exact p2'.2.2⟩, ⟨?_, by rw [op.2.2.2]; exact p3.2.1, by rw [op.2.2.2]; exact p3.2.2⟩, ⟨p4.1, by omega, by rw [on.1]; exact p4.2.2.1, ?_⟩, ⟨p5.1, by omega, by rw [ow.1]; exact p5.2.2⟩, fun q hq => ?_, ?_⟩, ?_, ?_⟩
          · rw [op.2.2.2, ef, hsh, if_neg (by omega)]; exact p3.1
          · rw [on.2.1, ef, pc_congr paf wf.1]; exact p4.2.2.2
          · rw [ef, pc_congr paf wf.1] at hq
            have := c8 (128 * k + q) (by omega)
            rw [← Nat.add_assoc, ← Nat.add_assoc] at this
            rw [on.2.2.1, this]
            exact p6 q hq
          · rw [(c9 k hk64).2, ow.2.1]
            refine ⟨fun z => by rw [ow.2.2.1]; exact p7.1 z, fun z => ⟨(p7.2 z).1, fun u hu => ?_⟩⟩
            rw [ow.2.2.1, (p7.2 z).2 u hu]
            have := c10 (24 * k + u) (by omega)
            rw [show 24 * (64 * i + k) + u = 1536 * i + (24 * k + u) by omega, this]
            congr 1
            omega
          · rw [htg, if_pos (by omega)]; exact t1
          · rw [htg, if_pos (by omega)]; exact t2
      · have hi' : (i : Int) < G 14 1 := by omega
        obtain ⟨-, is, ia, -, ip⟩ := C.mo hi'
        have ls := is.1
        have la := ia.1
        have ga := (ad.2.1 i (by omega)).1
        have oSh := kkV (sh i) (by omega) (by omega) (by rw [is.2.1.1]; decide)
        refine MoF.keep gi hi' (C.mo hi') (by rw [hsh, if_neg c]) (fun k hk => by have := (gi.fv hi' hk).2; rw [hsh, if_neg (by omega)]) (by rw [hins, if_neg c]) (fun _ _ => ⟨rfl, rfl, rfl⟩) (fun x hx => by rw [htg, if_pos (by omega)]) (by omega) (by rw [rV, r1, if_neg c]; rfl) (oSh.sa 5) (kkV _ (by omega) (by omega) (by rw [is.2.1.2.1]; decide)) (kkV _ (by omega) (by omega) (by rw [is.2.1.2.2]; decide)) (saA _ (by omega) (by omega)) (kkV _ (by omega) (by omega) (by rw [ia.2.1.2.1]; decide)) (kkV _ (by omega) (by omega) (by rw [ia.2.1.2.2]; decide)) (fun k hk => ?_) ga ?_ ?_
        · obtain ⟨p1, p2, p3, p4, p5, p6, p7⟩ := (ip k hk).1
          exact ⟨kkV _ (by omega) (by omega) (by rw [p2.2.2]; decide), kkV _ (by omega) (by omega) (by rw [p4.2.2.1]; decide), kkV _ (by omega) (by omega) (by rw [p5.2.2]; decide)⟩
        · rw [i4 _ (by omega) (by omega), ad.cJ (by omega), c4]
          have sym := C.2.2 i m hi' hm
          by_cases cs : ins i = ins m
          · have e21 := sym.mp cs
            have eJ : cJ G i = cJ G m := by unfold cJ; rw [e21]
            rw [if_pos cs, if_pos e21.symm, eJ]
            omega
          · rw [if_neg cs, if_neg (fun q => cs (sym.mpr q.symm))]
            exact ia.2.2.2.2.1.2.2
        · rw [oSh.2.2.1, ad.used]
          refine ⟨is.2.2.2.2.2.1.1, is.2.2.2.2.2.1.2.trans ⟨Or.inl, fun q => ?_⟩⟩
          rcases q with q | ⟨k, q1, q2⟩
          · exact q
          · rw [c2] at q1
            rw [efo k (by omega)] at q2
            exact ⟨m, k, hm, q1, q2⟩
    · rw [ad.1.2] at hi hj
      rw [hins i, hins j]
      by_cases d1 : i = t
      · by_cases d2 : j = t
        · rw [if_pos d1, if_pos d2, d1, d2]; simp
        · rw [if_pos d1, if_neg d2, d1, c4, (ad.2.1 j (by omega)).2.2]
          exact C.2.2 m j hm (by omega)
      · by_cases d2 : j = t
        · rw [if_neg d1, if_pos d2, d2, c4, (ad.2.1 i (by omega)).2.2]
          exact C.2.2 i m (by omega) hm
        · rw [if_neg d1, if_neg d2, (ad.2.1 i (by omega)).2.2, (ad.2.1 j (by omega)).2.2]
          exact C.2.2 i j (by omega) (by omega)
    · have e := (oT b (by omega) (by omega) (by omega)).tr (oTV b (by omega))
      rw [e.2.2.1, hI_wI, if_neg (by omega)]
end
