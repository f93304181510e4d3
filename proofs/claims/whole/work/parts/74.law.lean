/-! the law's loop -/
section
variable {G : Nat → Nat → Int} {S : AS}
theorem SI_17 (j : Nat) : hI SI 17 j = 0 := rfl
/-- after c calls -/
def Li (c : Nat) (G : Nat → Nat → Int) (S : AS) : Prop := (∃ (sh ins : Nat → Nat) (pl nt wy : Nat → Nat → Nat) (tg : Nat → Nat × Nat), Cls sh ins pl nt wy tg G S) ∧ Fix S ∧ (39 ≤ hn S ∧ hn S ≤ 39 + 1000 * c ∧ hu S ≤ 258911 + 13000 * c) ∧ Ag G S ∧ GI G ∧ G 14 9 ≤ c
theorem Li.stt {c : Nat} (h : Li c G S) (hc : c ≤ 511) : Stt S := by
  obtain ⟨-, f, ⟨h1, h2, h3⟩, -⟩ := h
  refine ⟨f, h1, ?_, ?_⟩
  · show hn S + 1000 ≤ 601024
    omega
  · show hu S + 13000 ≤ 7293034
    omega
theorem Li_0 : Li 0 (hI SI) SI := by
  obtain ⟨i1, i2, i3⟩ := SI_int
  refine ⟨⟨fun _ => 0, fun _ => 0, fun _ _ => 0, fun _ _ => 0, fun _ _ => 0, fun _ => (0, 0), by rw [i1, i2], fun i hi => by rw [i2] at hi; omega, fun i j hi => by rw [i2] at hi; omega⟩, SI_fix, ⟨by rw [SI_hn]; omega, by rw [SI_hn]; omega, by rw [SI_hu]; omega⟩, Ag.self SI, ⟨by rw [i2]; omega, fun i hi => by rw [i2] at hi; omega, ⟨fun _ => 0, fun i k hi => by rw [i2] at hi; omega⟩, by rw [i3]; omega, fun j => Or.inl (SI_17 j)⟩, by rw [i3]; omega⟩
def k38 (v : Int) (S1 : AS) : Option RS := (sI S1 (some 38) 13 0 v).bind fun S4 => rI 0 S4
theorem k38_ok (h : Fix S) (v : Int) : k38 v S = some ((0, 0, none), wI S 38 0 v) := by
  have kk : hk S 38 = 13 := h.kd (a := 38) (by decide)
  have ll : hl S 38 = 1 := h.ln (a := 38) (by decide)
  unfold k38
  rw [sI_at kk (by omega) (by rw [ll]; decide), Option.bind_some, rI_s]
  rfl
theorem MF.kp {T U : AS} (h : MF T U) : Kp T U ∧ (hn U = hn T ∧ hu U = hu T) ∧ hI U 38 0 = hI T 38 0 := by
  obtain ⟨J, rfl, hJ⟩ := h
  exact ⟨⟨Nat.le_refl _, fun a h1 h2 => ⟨rfl, rfl, fun j => hJ a j (by omega), fun _ => rfl⟩, hJ 0 1 (by omega), fun _ => rfl⟩, ⟨rfl, rfl⟩, hJ 38 0 (by omega)⟩
theorem pair {c : Nat} (li : Li c G S) {cl : Option RS} {hd : Nat → AS → Option RS} {mdl : AS → Option RS} {bl : Prop} (ok : OKp G S cl hd mdl bl) : ∃ (code v : Int) (S2 S7 : AS) (G' : Nat → Nat → Int), cH cl (fun v S1 => (sI S1 (some 38) 13 0 v).bind fun S4 => rI 0 S4) hd = some ((0, code, none), S2) ∧ (bl → cH cl (fun v2 S1 => if v2 = 0 then (sI S1 (some 38) 13 0 0).bind fun S4 => rI 0 S4 else (sI S1 (some 38) 13 0 1).bind fun S5 => rI 0 S5) hd = some ((0, code, none), S2)) ∧ Fix S2 ∧ mdl S2 = some ((0, v, none), S7) ∧ hI S7 14 0 = code ∧ (code = 0 → hI S7 38 0 = v ∧ (bl → v = 0 ∨ v = 1)) ∧ Li (c + 1) G' S7 := by
  obtain ⟨-, fS, ⟨n1, n2, n3⟩, g, gi, h9⟩ := li
  obtain ⟨e, v, code, S1, e1, h0, he, fr, bd, le, mo⟩ := ok
  have f1 := fr.2
  have g1 := fr.ag g
  have fin : ∀ T, (T = S1 ∨ ∃ z, T = wI S1 38 0 z) → ∃ (S7 : AS) (G' : Nat → Nat → Int), Fix T ∧ mdl T = some ((0, v, none), S7) ∧ hI S7 14 0 = code ∧ hI S7 38 0 = hI T 38 0 ∧ Li (c + 1) G' S7 := fun T hT => by
    have b1 := bd.1
    have b2 := bd.2
    have fT : Fix T ∧ Ag G T ∧ Kp S1 T ∧ hn T = hn S1 ∧ hu T = hu S1 := by
      rcases hT with rfl | ⟨z, rfl⟩
      · exact ⟨f1, g1, Kp.rfl' _, rfl, rfl⟩
      · have kp9 : Kp S1 (wI S1 38 0 z) := by
          refine ⟨by rw [hn_wI]; exact Nat.le_refl _, fun a h1 h2 => ?_, ?_, fun j => by rw [hR_wI]⟩
          · exact (Od.w (by omega) : Od a S1 (wI S1 38 0 z))
          · rw [hI_wI, if_neg (by omega)]
        exact ⟨f1.wI 38 0 z, g1.w1 (by unfold kor; omega), kp9, hn_wI S1 38 0 z, hu_wI S1 38 0 z⟩
    obtain ⟨fT, gT, kT, nT, uT⟩ := fT
    obtain ⟨G', ⟨S7, m1, m2, m3, m4⟩, gi', h9', sh, ins, pl, nt, wy, tg, C1⟩ := mo T fT gT
    obtain ⟨k7, ⟨n7, u7⟩, o7⟩ := m2.kp
    refine ⟨S7, G', fT, m1, m3, o7, ⟨sh, ins, pl, nt, wy, tg, (C1.kp kT).kp k7⟩, m2.fix fT, ⟨by omega, by omega, by omega⟩, m4, gi', by omega⟩
  by_cases c0 : e = 0
  · obtain ⟨rfl, hb⟩ := h0 c0
    subst c0
    obtain ⟨S7, G', fT, m1, m3, o7, li'⟩ := fin (wI S1 38 0 v) (Or.inr ⟨v, rfl⟩)
    have kk := fun z => k38_ok f1 z
    refine ⟨0, v, wI S1 38 0 v, S7, G', ?_, fun q => ?_, fT, m1, m3, fun _ => ⟨by rw [o7, hI_w0], hb⟩, li'⟩
    · rw [e1]
      exact kk v
    · rw [e1]
      show (if v = 0 then k38 0 S1 else k38 1 S1) = _
      rcases hb q with z | z
      · rw [if_pos z, kk, z]
      · rw [if_neg (by omega), kk, z]
  · obtain ⟨q1, q2⟩ := he c0
    obtain ⟨S7, G', fT, m1, m3, o7, li'⟩ := fin S1 (Or.inl rfl)
    refine ⟨code, v, S1, S7, G', ?_, fun _ => ?_, fT, m1, m3, fun q => absurd q q1, li'⟩
    · rw [e1]
      unfold cH
      rw [Option.bind_some, if_neg c0]
      exact q2
    · rw [e1]
      unfold cH
      rw [Option.bind_some, if_neg c0]
      exact q2
theorem cmpI_0 {x y : Int} (h : x = y) : cmpI x y = 0 := by
  unfold cmpI
  rw [if_neg (by omega), if_pos h]
noncomputable def tlI (nx : AS → Option RS) (v6 v8 : Int) (S7 : AS) : Option RS := gd (isK S7 (some 14) 7) <| cM (f_X6_thrown (some 14) S7) fun v11 S10 => if v11 = v6 then (if v6 = 0 then (aI S10 (some 38) 13 0).bind fun v14 => if (cmpI v14 v8) = 0 then nx S10 else rI 0 S10 else nx S10) else rI 0 S10
noncomputable def tlZ (nx : AS → Option RS) (v6 v8 : Int) (S7 : AS) : Option RS := gd (isK S7 (some 14) 7) <| cM (f_X6_thrown (some 14) S7) fun v11 S10 => if v11 = v6 then (if v6 = 0 then (aI S10 (some 38) 13 0).bind fun v14 => if v8 = 0 then (if (cmpI v14 0) = 0 then nx S10 else rI 0 S10) else (if (cmpI v14 1) = 0 then nx S10 else rI 0 S10) else nx S10) else rI 0 S10
theorem tlI_ok {nx : AS → Option RS} {code v : Int} (h : Fix S) (h0 : hI S 14 0 = code) (hv : code = 0 → hI S 38 0 = v) : tlI nx code v S = nx S := by
  have kk : hk S 38 = 13 := h.kd (a := 38) (by decide)
  have ll : hl S 38 = 1 := h.ln (a := 38) (by decide)
  unfold tlI
  rw [fk_14 h, gd_1, thrown_eq h, cM_s, h0, if_pos rfl]
  by_cases c : code = 0
  · rw [if_pos c, aI_at kk (by omega) (by rw [ll]; decide), Option.bind_some, show (0 : Int).toNat = 0 from rfl, if_pos (cmpI_0 (hv c))]
  · rw [if_neg c]
theorem tlZ_ok {nx : AS → Option RS} {code v : Int} (h : Fix S) (h0 : hI S 14 0 = code) (hv : code = 0 → hI S 38 0 = v ∧ (v = 0 ∨ v = 1)) : tlZ nx code v S = nx S := by
  have kk : hk S 38 = 13 := h.kd (a := 38) (by decide)
  have ll : hl S 38 = 1 := h.ln (a := 38) (by decide)
  unfold tlZ
  rw [fk_14 h, gd_1, thrown_eq h, cM_s, h0, if_pos rfl]
  by_cases c : code = 0
  · obtain ⟨h1, h2⟩ := hv c
    rw [if_pos c, aI_at kk (by omega) (by rw [ll]; decide), Option.bind_some, show (0 : Int).toNat = 0 from rfl, h1]
    rcases h2 with z | z
    · rw [if_pos z, if_pos (cmpI_0 z)]
    · rw [if_neg (by omega), if_pos (cmpI_0 z)]
  · rw [if_neg c]
end
