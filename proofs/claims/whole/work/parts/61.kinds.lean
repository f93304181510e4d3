/-! kinds -/
variable {sh ins : Nat → Nat} {pl nt wy : Nat → Nat → Nat} {tg : Nat → Nat × Nat}
section
variable {G : Nat → Nat → Int} {S : AS}
/-- all numbers below n, the last in front -/
def dn : Nat → List Nat
  | 0 => []
  | n + 1 => n :: dn n
theorem dn_mem {x : Nat} : ∀ n, x ∈ dn n ↔ x < n := by
  intro n
  induction n with
  | zero => simp [dn]
  | succ n ih => simp only [dn, List.mem_cons, ih]; omega
theorem dn_nd : ∀ n, (dn n).Nodup := by
  intro n
  induction n with
  | zero => exact List.nodup_nil
  | succ n ih =>
    simp only [dn]
    rw [List.nodup_cons]
    exact ⟨fun q => by have := (dn_mem n).mp q; omega, ih⟩
theorem dn_len : ∀ n, (dn n).length = n := by
  intro n
  induction n with
  | zero => rfl
  | succ n ih => simp only [dn, List.length_cons, ih]
theorem kinds_26 (h : Fix S) {a : Nat} (la : a < 24) (h01 : ∀ j, j < 576 → hI S 35 j = 0 ∨ hI S 35 j = 1) (k13 : Option Nat → Int → Int → AS → Option RS) {c : Nat} (hc : c < 1000) : ∀ (d b fu : Nat) (fi : Int), a = b + d → d < fu → (fi = 0 ∨ fi = 1) → ∃ v : Nat, f_X6_kinds_26 fu k13 (some 14) c a fi b S = k13 (some 14) ((c + v : Nat) : Int) ((a : Int) + 1) S ∧ (v = 0 ∨ v = 1) ∧ (v = 1 ↔ fi = 1 ∧ ∀ y, b ≤ y → y < a → ¬ Rn S y a) := by
  intro d
  induction d with
  | zero =>
    intro b fu fi hb hf hfi
    obtain ⟨fu, rfl⟩ : ∃ z, fu = z + 1 := ⟨fu - 1, by omega⟩
    rcases hfi with z | z
    · subst z
      refine ⟨0, ?_, Or.inl rfl, ⟨fun q => by omega, fun q => by omega⟩⟩
      unfold f_X6_kinds_26
      rw [if_pos (by omega), if_pos rfl, chk_ok (by omega) (by omega), Option.bind_some]
      rfl
    · subst z
      refine ⟨1, ?_, Or.inr rfl, ⟨fun _ => ⟨rfl, fun y h1 h2 => by omega⟩, fun _ => rfl⟩⟩
      unfold f_X6_kinds_26
      rw [if_pos (by omega), if_neg (by decide), chk_ok (by omega) (by omega), Option.bind_some, chk_ok (by omega) (by omega), Option.bind_some]
      rfl
  | succ d ih =>
    intro b fu fi hb hf hfi
    obtain ⟨fu, rfl⟩ : ∃ z, fu = z + 1 := ⟨fu - 1, by omega⟩
    have st : f_X6_kinds_55 k13 (f_X6_kinds_26 fu k13) (some 14) c a b S = f_X6_kinds_26 fu k13 (some 14) c a 0 ((b + 1 : Nat) : Int) S := by
      unfold f_X6_kinds_55
      rw [chk_ok (by omega) (by omega), Option.bind_some]
      rfl
    rcases hfi with z | z
    · subst z
      obtain ⟨v, e, v1, v2⟩ := ih (b + 1) fu 0 (by omega) (by omega) (Or.inl rfl)
      refine ⟨v, ?_, v1, v2.trans ⟨fun q => by omega, fun q => by omega⟩⟩
      rw [← e, ← st]
      conv => lhs; unfold f_X6_kinds_26
      rw [if_neg (by omega), if_pos rfl]
    · subst z
      have e1 : (24 * (b : Int) + (a : Int)).toNat = 24 * b + a := by omega
      have e0 : f_X6_kinds_26 (fu + 1) k13 (some 14) c a 1 b S = if hI S 35 (24 * b + a) = 0 then f_X6_kinds_26 fu k13 (some 14) c a 1 ((b + 1 : Nat) : Int) S else f_X6_kinds_26 fu k13 (some 14) c a 0 ((b + 1 : Nat) : Int) S := by
        conv => lhs; unfold f_X6_kinds_26
        rw [if_neg (by omega), if_neg (by decide), fr_14_25 h, Option.bind_some, chk_ok (x := 24 * (b : Int)) (by omega) (by omega), Option.bind_some, chk_ok (x := 24 * (b : Int) + (a : Int)) (by omega) (by omega), Option.bind_some, fa_35 h (by omega) (by omega), Option.bind_some, e1, st, chk_ok (by omega) (by omega), Option.bind_some]
        rfl
      by_cases c0 : hI S 35 (24 * b + a) = 0
      · obtain ⟨v, e, v1, v2⟩ := ih (b + 1) fu 1 (by omega) (by omega) (Or.inr rfl)
        refine ⟨v, by rw [e0, if_pos c0, e], v1, v2.trans ⟨fun q => ⟨rfl, fun y h1 h2 => ?_⟩, fun q => ⟨rfl, fun y h1 h2 => q.2 y (by omega) h2⟩⟩⟩
        by_cases c2 : y = b
        · subst c2; unfold Rn; omega
        · exact q.2 y (by omega) h2
      · obtain ⟨v, e, v1, v2⟩ := ih (b + 1) fu 0 (by omega) (by omega) (Or.inl rfl)
        refine ⟨v, by rw [e0, if_neg c0, e], v1, v2.trans ⟨fun q => by omega, fun q => ?_⟩⟩
        have := q.2 b (Nat.le_refl _) (by omega)
        rcases h01 (24 * b + a) (by omega) with z | z
        · exact absurd z c0
        · exact absurd z this
theorem kinds_13 (h : Fix S) (g : Ag G S) (gi : GI G) (h01 : ∀ j, j < 576 → hI S 35 j = 0 ∨ hI S 35 j = 1) (r : ∀ a b : Nat, (a : Int) < G 14 1 → (b : Int) < G 14 1 → (Rn S a b ↔ AL G a b)) : ∀ (d a fu : Nat), (G 14 1).toNat = a + d → d < fu → f_X6_kinds_13 fu (some 14) (nf G (dn a) : Int) a S = some ((0, (nf G (dn (G 14 1).toNat) : Int), none), S) := by
  have l0 := gi.1
  intro d
  induction d with
  | zero =>
    intro a fu ha hf
    obtain ⟨fu, rfl⟩ : ∃ z, fu = z + 1 := ⟨fu - 1, by omega⟩
    unfold f_X6_kinds_13
    rw [mg_1 h g, Option.bind_some, if_pos (by omega), rI_s, show (G 14 1).toNat = a by omega]
  | succ d ih =>
    intro a fu ha hf
    obtain ⟨fu, rfl⟩ : ∃ z, fu = z + 1 := ⟨fu - 1, by omega⟩
    have ham : (a : Int) < G 14 1 := by omega
    have nl := nf_le (G := G) (dn a)
    rw [dn_len] at nl
    obtain ⟨v, e, v1, v2⟩ := kinds_26 h (a := a) (by omega) h01 (f_X6_kinds_13 fu) (c := nf G (dn a)) (by omega) a 0 FU 1 (by omega) (FU_gt (by omega)) (Or.inr rfl)
    have ev : nf G (dn a) + v = nf G (dn (a + 1)) := by
      have hh : (∃ y, y ∈ dn a ∧ AL G a y) ↔ v = 0 := by
        constructor
        · rintro ⟨y, h1, h2⟩
          have hy := (dn_mem a).mp h1
          rcases v1 with z | z
          · exact z
          · exact absurd ((r y a (by omega) ham).mpr (h2.sy gi)) ((v2.mp z).2 y (Nat.zero_le _) hy)
        · intro z
          refine Classical.byContradiction (fun q => ?_)
          have := v2.mpr ⟨rfl, fun y _ hy w => q ⟨y, (dn_mem a).mpr hy, ((r y a (by omega) ham).mp w).sy gi⟩⟩
          omega
      simp only [dn]
      rcases v1 with z | z
      · rw [nf_t (hh.mpr z), z]; rfl
      · rw [nf_f (fun q => by have := hh.mp q; omega), z]
    rw [ev] at e
    refine Eq.trans ?_ (ih (a + 1) fu (by omega) (by omega))
    conv => lhs; unfold f_X6_kinds_13
    rw [mg_1 h g, Option.bind_some, if_neg (by omega)]
    exact e
theorem m_kinds (h : Fix S) (g : Ag G S) (gi : GI G) : MO S (f_X6_kinds (some 14) S) 0 (nf G (dn (G 14 1).toNat)) G := by
  have h1 := h.wI 14 0 0
  have g1 : Ag G (wI S 14 0 0) := g.w1 kor_0
  obtain ⟨T, e, f, r⟩ := find_eq h1 g1 gi
  obtain ⟨fT, gT, mT, tT⟩ := f.1.ok h1 g1
  refine ⟨T, ?_, (MF.w1 S 0 0 (by decide) (by decide)).tr mT, by rw [tT, hI_w0], gT⟩
  unfold f_X6_kinds
  rw [fp_14 h, Option.bind_some, fk_14 h1, gd_1, e, cV_s]
  exact kinds_13 fT gT gi f.2.1 r (G 14 1).toNat 0 FU (by omega) (FU_gt (by have := gi.1; omega))
theorem kinds_9 (C : Cls sh ins pl nt wy tg G S) (hs : Stt S) (gi : GI G) : ∀ (d i fu : Nat) (T : AS) (L : List Nat), (G 14 1).toNat = i + d → d < fu → OS sh S T L (fun y => y ∈ L) → (∀ y, y ∈ L → (y : Int) < G 14 1) → Bh G L → L.Nodup → (∀ y, y < i → y ∈ L) → ∃ T', f_X5_kinds_9 fu (some 0) i T = some ((0, (nf G (dn (G 14 1).toNat) : Int), none), T') ∧ Sc S T' := by
  have l0 := gi.1
  intro d
  induction d with
  | zero =>
    intro i fu T L hi hf o hL hB hN hy
    obtain ⟨fu, rfl⟩ : ∃ z, fu = z + 1 := ⟨fu - 1, by omega⟩
    have hT := o.1.stt hs
    have CT := C.kp o.1.kp
    obtain ⟨T', e, kv⟩ := sort_eq C hs gi hL hB hN o
    refine ⟨T', ?_, kv.1.1⟩
    unfold f_X5_kinds_9
    rw [c_n CT hT.1, Option.bind_some, if_pos (by omega), fk_0 hT.1, gd_1, e, cI_s, rI_s]
    have : nf G L.reverse = nf G (dn (G 14 1).toNat) := by
      refine nf_perm gi ((List.reverse_perm L).trans ((List.perm_ext_iff_of_nodup hN (dn_nd _)).mpr (fun x => ?_)))
      rw [dn_mem]
      exact ⟨fun q => by have := hL x q; omega, fun q => hy x (by omega)⟩
    rw [this]
  | succ d ih =>
    intro i fu T L hi hf o hL hB hN hy
    obtain ⟨fu, rfl⟩ : ∃ z, fu = z + 1 := ⟨fu - 1, by omega⟩
    have hT := o.1.stt hs
    have CT := C.kp o.1.kp
    have him : (i : Int) < G 14 1 := by omega
    obtain ⟨T1, M, e1, o1, b1, n1, l1, x1, r1⟩ := put_top C hs gi him o hL hB hN
    obtain ⟨T', e, s⟩ := ih (i + 1) fu T1 (L ++ M) (by omega) (by omega) o1 l1 b1 n1 (fun y q => by
      by_cases c : y = i
      · rw [c]; exact x1
      · exact List.mem_append_left _ (hy y (by omega)))
    refine ⟨T', ?_, s⟩
    conv => lhs; unfold f_X5_kinds_9
    rw [c_n CT hT.1, Option.bind_some, if_neg (by omega), fr_0_0 hT.1, Option.bind_some, c_sh CT hT.1 gi him, Option.bind_some, fr_0_2 hT.1, Option.bind_some, e1, cV_s, chk_ok (by omega) (by omega), Option.bind_some]
    exact e
theorem x_kinds (C : Cls sh ins pl nt wy tg G S) (hs : Stt S) (gi : GI G) : CO S (f_X5_kinds (some 0) S) 0 (nf G (dn (G 14 1).toNat)) := by
  obtain ⟨T1, e1, o1⟩ := restart_eq (sh := sh) (Sc.rfl' S) hs.1
  obtain ⟨T', e, s⟩ := kinds_9 C hs gi (G 14 1).toNat 0 FU T1 [] (by omega) (FU_gt (by have := gi.1; omega)) ⟨o1.1, o1.2.1, o1.2.2.1, fun y hy => ⟨(o1.2.2.2 y hy).1, (o1.2.2.2 y hy).2.trans (by simp)⟩⟩ (fun y hy => absurd hy List.not_mem_nil) (fun p hp => absurd hp (Nat.not_lt_zero _)) List.nodup_nil (fun y hy => absurd hy (Nat.not_lt_zero _))
  refine ⟨T', ?_, s.qu hs.1⟩
  unfold f_X5_kinds
  rw [fr_0_2 hs.1, Option.bind_some, fk_2 hs.1, gd_1, e1, cV_s]
  exact e
end
