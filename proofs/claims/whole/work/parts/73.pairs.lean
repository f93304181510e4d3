/-! each call of the class beside the model's -/
variable {sh ins : Nat → Nat} {pl nt wy : Nat → Nat → Nat} {tg : Nat → Nat × Nat}
section
variable {G G' : Nat → Nat → Int} {S : AS}
def OKp (G : Nat → Nat → Int) (S : AS) (c : Option RS) (hd : Nat → AS → Option RS) (mdl : AS → Option RS) (bl : Prop) : Prop := ∃ (e : Nat) (v code : Int) (S1 : AS), c = some ((e, v, none), S1) ∧ (e = 0 → code = 0 ∧ (bl → v = 0 ∨ v = 1)) ∧ (e ≠ 0 → code ≠ 0 ∧ hd e S1 = some ((0, code, none), S1)) ∧ Fr S S1 ∧ Bd 1000 13000 S S1 ∧ hn S ≤ hn S1 ∧ ∀ T, Fix T → Ag G T → ∃ G' : Nat → Nat → Int, MO T (mdl T) code v G' ∧ GI G' ∧ G' 14 9 ≤ G 14 9 + 1 ∧ ∃ (sh ins : Nat → Nat) (pl nt wy : Nat → Nat → Nat) (tg : Nat → Nat × Nat), Cls sh ins pl nt wy tg G' S1
theorem okp_cx {c : Option RS} {hd : Nat → AS → Option RS} {mdl : AS → Option RS} {bl : Prop} {e : Nat} {v code : Int} (cx : CX S c e v G') (h0 : e = 0 → code = 0 ∧ (bl → v = 0 ∨ v = 1)) (he : e ≠ 0 → code ≠ 0 ∧ ∀ T, hd e T = some ((0, code, none), T)) (mo : ∀ T, Fix T → Ag G T → MO T (mdl T) code v G') (gi' : GI G') (h9 : G' 14 9 ≤ G 14 9 + 1) : OKp G S c hd mdl bl := by
  obtain ⟨S1, sh, ins, pl, nt, wy, tg, e1, C1, fr, bd, le⟩ := cx
  exact ⟨e, v, code, S1, e1, h0, fun q => ⟨(he q).1, (he q).2 S1⟩, fr, bd, le, fun T fT gT => ⟨G', mo T fT gT, gi', h9, sh, ins, pl, nt, wy, tg, C1⟩⟩
theorem okp_co (C : Cls sh ins pl nt wy tg G S) (gi : GI G) {c : Option RS} {hd : Nat → AS → Option RS} {mdl : AS → Option RS} {bl : Prop} {e : Nat} {v code : Int} (co : CO S c e v) (h0 : e = 0 → code = 0 ∧ (bl → v = 0 ∨ v = 1)) (he : e ≠ 0 → code ≠ 0 ∧ ∀ T, hd e T = some ((0, code, none), T)) (mo : ∀ T, Fix T → Ag G T → MO T (mdl T) code v G) : OKp G S c hd mdl bl := okp_cx (co.cx C) h0 he mo gi (by omega)
theorem no_e {P : Prop} : (0 : Nat) ≠ 0 → P := fun q => absurd rfl q
theorem ok_0 {bl : Prop} {v : Int} (h : bl → v = 0 ∨ v = 1) : (0 : Nat) = 0 → (0 : Int) = 0 ∧ (bl → v = 0 ∨ v = 1) := fun _ => ⟨rfl, h⟩
theorem no_0 {P : Prop} {e : Nat} : (e + 1 : Nat) = 0 → P := fun q => absurd q (by omega)
theorem okp_module (C : Cls sh ins pl nt wy tg G S) (hs : Stt S) (gi : GI G) (hb : G 14 9 ≤ 1000) : OKp G S (f_X5_module (some 0) S) (fun (k9 : Nat) (S9 : AS) => if k9 = 2 then rI 1 S9 else none) (fun T => f_X6_module (some 14) T) False := by
  by_cases c : G 14 1 = 24
  · exact okp_co C gi ((x_module C hs gi).1 c) no_0 (fun _ => ⟨by decide, fun T => rfl⟩) (fun T fT gT => (m_module fT gT gi).1 c)
  · refine okp_cx ((x_module C hs gi).2 c) (ok_0 False.elim) no_e (fun T fT gT => (m_module fT gT gi).2 c) (gi.module c hb) ?_
    have := (nw_t gi (t := (G 14 1).toNat) rfl).1.2.2.2.2
    omega
theorem okp_port (C : Cls sh ins pl nt wy tg G S) (hs : Stt S) (gi : GI G) (x y z : Int) (hz : z = 0 ∨ z = 1) : OKp G S (f_X5_port (some 0) x y z S) (fun (k9 : Nat) (S9 : AS) => if k9 = 1 then rI 1 S9 else if k9 = 2 then rI 2 S9 else if k9 = 3 then rI 3 S9 else none) (fun T => f_X6_port (some 14) x y z T) False := by
  obtain ⟨x1, x2, x3, x4⟩ := x_port C hs gi x y z hz
  by_cases c1 : 0 ≤ x ∧ x < G 14 1
  · by_cases c2 : G 15 x.toNat = 16 ∨ used G x.toNat
    · exact okp_co C gi (x2 c1 c2) no_0 (fun _ => ⟨by decide, fun T => rfl⟩) (fun T fT gT => (m_port fT gT gi x y z hz).2.1 c1 c2)
    · by_cases c3 : 1 ≤ y ∧ y ≤ 8
      · refine okp_cx (x4 c1 c2 c3) (ok_0 False.elim) no_e (fun T fT gT => (m_port fT gT gi x y z hz).2.2.2 c1 c2 c3) (gi.port (by omega) (fun q => c2 (Or.inl q)) c3 hz) ?_
        unfold ptG
        rw [uq_ne (by omega), uq_ne (by omega), uq_ne (by omega)]
        omega
      · exact okp_co C gi (x3 c1 c2 c3) no_0 (fun _ => ⟨by decide, fun T => rfl⟩) (fun T fT gT => (m_port fT gT gi x y z hz).2.2.1 c1 c2 c3)
  · exact okp_co C gi (x1 c1) no_0 (fun _ => ⟨by decide, fun T => rfl⟩) (fun T fT gT => (m_port fT gT gi x y z hz).1 c1)
theorem rc_chg (gi : GI G) {m y z : Nat} : Rc (chg G m) y z → Rc G y z := fun h P hP hc => h P hP (fun u k hu hP' hk9 => by
  rw [chg_o (by omega)] at hu hk9
  have e : fo (chg G m) u k = fo G u k := by unfold fo; rw [chg_o (by omega)]
  rw [e]
  exact hc u k hu hP' hk9)
theorem okp_inst (C : Cls sh ins pl nt wy tg G S) (hs : Stt S) (gi : GI G) (hb : G 14 9 ≤ 1000) (x y : Int) : OKp G S (f_X5_instance (some 0) x y S) (fun (k9 : Nat) (S9 : AS) => if k9 = 1 then rI 1 S9 else if k9 = 2 then rI 2 S9 else none) (fun T => f_X6_instance (some 14) x y T) False := by
  obtain ⟨x1, x2⟩ := x_inst C hs gi hb x y
  by_cases c1 : (0 ≤ x ∧ x < G 14 1) ∧ 0 ≤ y ∧ y < G 14 1
  · obtain ⟨x3, x4⟩ := x2 c1
    by_cases c2 : G 18 x.toNat = 64
    · exact okp_co C gi (x3 c2) no_0 (fun _ => ⟨by decide, fun T => rfl⟩) (fun T fT gT => ((m_inst fT gT gi x y).2 c1).1 c2)
    · obtain ⟨x5, x6⟩ := x4 c2
      by_cases c3 : Rc G y.toNat x.toNat
      · exact okp_co C gi (x5 c3) (ok_0 False.elim) no_e (fun T fT gT => (((m_inst fT gT gi x y).2 c1).2 c2).1 c3)
      · refine okp_cx (x6 c3) (ok_0 False.elim) no_e (fun T fT gT => (((m_inst fT gT gi x y).2 c1).2 c2).2 c3) ?_ ?_
        · rw [isG_eq]
          have e1 : chg G x.toNat 14 1 = G 14 1 := chg_o (by omega)
          have e2 : chg G x.toNat 18 x.toNat = G 18 x.toNat := chg_o (by omega)
          exact (gi.chg hb).inst (by rw [e1]; omega) (by rw [e1]; omega) (by rw [e2]; exact c2) (fun q => c3 (rc_chg gi q))
        · unfold isG
          rw [uq_ne (by omega), uq_ne (by omega), uq_ne (by omega)]
          exact chg_9.2
  · exact okp_co C gi (x1 c1) no_0 (fun _ => ⟨by decide, fun T => rfl⟩) (fun T fT gT => (m_inst fT gT gi x y).1 c1)
theorem okp_net (C : Cls sh ins pl nt wy tg G S) (hs : Stt S) (gi : GI G) (hb : G 14 9 ≤ 1000) (x : Int) : OKp G S (f_X5_net (some 0) x S) (fun (k9 : Nat) (S9 : AS) => if k9 = 1 then rI 1 S9 else if k9 = 2 then rI 2 S9 else none) (fun T => f_X6_net (some 14) x T) False := by
  obtain ⟨x1, x2, x3⟩ := x_net C hs gi hb x
  by_cases c1 : 0 ≤ x ∧ x < G 14 1
  · by_cases c2 : G 20 x.toNat = 128
    · exact okp_co C gi (x2 c1 c2) no_0 (fun _ => ⟨by decide, fun T => rfl⟩) (fun T fT gT => (m_net fT gT gi x).2.1 c1 c2)
    · refine okp_cx (x3 c1 c2) (ok_0 False.elim) no_e (fun T fT gT => (m_net fT gT gi x).2.2 c1 c2) ?_ ?_
      · have e1 : chg G x.toNat 14 1 = G 14 1 := chg_o (by omega)
        have e2 : chg G x.toNat 20 x.toNat = G 20 x.toNat := chg_o (by omega)
        have := (gi.chg (m := x.toNat) hb).net (m := x.toNat) (by rw [e1]; omega) (by rw [e2]; exact c2)
        rw [e2] at this
        exact this
      · rw [uq_ne (by omega)]
        exact chg_9.2
  · exact okp_co C gi (x1 c1) no_0 (fun _ => ⟨by decide, fun T => rfl⟩) (fun T fT gT => (m_net fT gT gi x).1 c1)
theorem gi_jn (gi : GI G) (hb : G 14 9 ≤ 1000) {x y z v : Int} (hp : isPn G x y z) (hv : -1 ≤ v ∧ v < G 20 x.toNat) : GI (jn G x.toNat (y + 1).toNat z.toNat v) ∧ jn G x.toNat (y + 1).toNat z.toNat v 14 9 ≤ G 14 9 + 1 := by
  obtain ⟨h1, h2, h3, h4⟩ := hp
  have e1 : chg G x.toNat 14 1 = G 14 1 := chg_o (by omega)
  have e2 : chg G x.toNat 18 x.toNat = G 18 x.toNat := chg_o (by omega)
  have e3 : chg G x.toNat 20 x.toNat = G 20 x.toNat := chg_o (by omega)
  have hm : ((x.toNat : Nat) : Int) < G 14 1 := by omega
  have lj := jm_lt gi hm (j := (y + 1).toNat) (by omega)
  have ej : jm (chg G x.toNat) x.toNat (y + 1).toNat = jm G x.toNat (y + 1).toNat := by
    unfold jm
    split
    · rfl
    · unfold fo
      rw [chg_o (by omega)]
  have pa : PA G (chg G x.toNat) (jm G x.toNat (y + 1).toNat) := ⟨chg_o (by omega), fun k _ => ⟨chg_o (by omega), chg_o (by omega)⟩⟩
  refine ⟨(gi.chg hb).join (m := x.toNat) (by rw [e1]; exact hm) (by rw [e2]; omega) ?_ (by rw [e3]; exact hv), ?_⟩
  · unfold np
    rw [ej, pc_congr pa (gi.pw lj).1]
    omega
  · unfold jn
    rw [uq_ne (by omega)]
    exact chg_9.2
theorem okp_join (C : Cls sh ins pl nt wy tg G S) (hs : Stt S) (gi : GI G) (hb : G 14 9 ≤ 1000) (x v y z : Int) : OKp G S (f_X5_join (some 0) x v y z S) (fun (k9 : Nat) (S9 : AS) => if k9 = 1 then rI 1 S9 else none) (fun T => f_X6_join (some 14) x v y z T) True := by
  obtain ⟨x1, x2⟩ := x_join C hs gi hb x v y z
  by_cases c1 : isPn G x y z ∧ 0 ≤ v ∧ v < G 20 x.toNat
  · obtain ⟨x3, x4⟩ := x2 c1
    by_cases c2 : qn G x.toNat (y + 1).toNat z.toNat = v
    · exact okp_co C gi (x3 c2) (ok_0 (fun _ => Or.inl rfl)) no_e (fun T fT gT => ((m_join fT gT gi x v y z).2 c1).1 c2)
    · obtain ⟨g1, g2⟩ := gi_jn gi hb c1.1 (v := v) (by omega)
      exact okp_cx (x4 c2) (ok_0 (fun _ => Or.inr rfl)) no_e (fun T fT gT => ((m_join fT gT gi x v y z).2 c1).2 c2) g1 g2
  · exact okp_co C gi (x1 c1) no_0 (fun _ => ⟨by decide, fun T => rfl⟩) (fun T fT gT => (m_join fT gT gi x v y z).1 c1)
theorem okp_part (C : Cls sh ins pl nt wy tg G S) (hs : Stt S) (gi : GI G) (hb : G 14 9 ≤ 1000) (x y z : Int) : OKp G S (f_X5_part (some 0) x y z S) (fun (k9 : Nat) (S9 : AS) => if k9 = 1 then rI 1 S9 else none) (fun T => f_X6_part (some 14) x y z T) True := by
  obtain ⟨x1, x2⟩ := x_part C hs gi hb x y z
  by_cases c1 : isPn G x y z
  · obtain ⟨x3, x4⟩ := x2 c1
    by_cases c2 : qn G x.toNat (y + 1).toNat z.toNat = -1
    · exact okp_co C gi (x3 c2) (ok_0 (fun _ => Or.inl rfl)) no_e (fun T fT gT => ((m_part fT gT gi x y z).2 c1).1 c2)
    · have nn := gi.nn (i := x.toNat) (by have := c1.1; omega)
      obtain ⟨g1, g2⟩ := gi_jn gi hb c1 (v := -1) (by omega)
      exact okp_cx (x4 c2) (ok_0 (fun _ => Or.inr rfl)) no_e (fun T fT gT => ((m_part fT gT gi x y z).2 c1).2 c2) g1 g2
  · exact okp_co C gi (x1 c1) no_0 (fun _ => ⟨by decide, fun T => rfl⟩) (fun T fT gT => (m_part fT gT gi x y z).1 c1)
theorem okp_netOf (C : Cls sh ins pl nt wy tg G S) (hs : Stt S) (gi : GI G) (x y z : Int) : OKp G S (f_X5_netOf (some 0) x y z S) (fun (k9 : Nat) (S9 : AS) => if k9 = 1 then rI 1 S9 else none) (fun T => f_X6_netOf (some 14) x y z T) False := by
  by_cases c1 : isPn G x y z
  · exact okp_co C gi ((x_netOf C hs gi x y z).1 c1) (ok_0 False.elim) no_e (fun T fT gT => (m_netOf fT gT gi x y z).1 c1)
  · exact okp_co C gi ((x_netOf C hs gi x y z).2 c1) no_0 (fun _ => ⟨by decide, fun T => rfl⟩) (fun T fT gT => (m_netOf fT gT gi x y z).2 c1)
theorem okp_pins (C : Cls sh ins pl nt wy tg G S) (hs : Stt S) (gi : GI G) (x y : Int) : OKp G S (f_X5_pins (some 0) x y S) (fun (k9 : Nat) (S9 : AS) => if k9 = 1 then rI 1 S9 else none) (fun T => f_X6_pins (some 14) x y T) False := by
  by_cases c1 : (0 ≤ x ∧ x < G 14 1) ∧ 0 ≤ y ∧ y < G 20 x.toNat
  · exact okp_co C gi ((x_pins C hs gi x y).2 c1) (ok_0 False.elim) no_e (fun T fT gT => (m_pins fT gT gi x y).2 c1)
  · exact okp_co C gi ((x_pins C hs gi x y).1 c1) no_0 (fun _ => ⟨by decide, fun T => rfl⟩) (fun T fT gT => (m_pins fT gT gi x y).1 c1)
theorem okp_pin (C : Cls sh ins pl nt wy tg G S) (hs : Stt S) (gi : GI G) (x y k w : Int) (hk9 : -2147483648 ≤ k ∧ k ≤ 2147483647) : OKp G S (f_X5_pin (some 0) x y k w S) (fun (k9 : Nat) (S9 : AS) => if k9 = 1 then rI 1 S9 else none) (fun T => f_X6_pin (some 14) x y k w T) False := by
  by_cases c1 : (0 ≤ x ∧ x < G 14 1) ∧ (0 ≤ y ∧ y < G 20 x.toNat) ∧ (0 ≤ w ∧ w < 3) ∧ (pf G x.toNat y k).1 ≠ -1
  · exact okp_co C gi ((x_pin C hs gi x y k w hk9).2 c1) (ok_0 False.elim) no_e (fun T fT gT => (m_pin fT gT gi x y k w hk9.2).2 c1)
  · exact okp_co C gi ((x_pin C hs gi x y k w hk9).1 c1) no_0 (fun _ => ⟨by decide, fun T => rfl⟩) (fun T fT gT => (m_pin fT gT gi x y k w hk9.2).1 c1)
theorem okp_copy (C : Cls sh ins pl nt wy tg G S) (hs : Stt S) (gi : GI G) (hb : G 14 9 ≤ 1000) (x : Int) : OKp G S (f_X5_copy (some 0) x S) (fun (k9 : Nat) (S9 : AS) => if k9 = 1 then rI 1 S9 else if k9 = 2 then rI 2 S9 else none) (fun T => f_X6_copy (some 14) x T) False := by
  obtain ⟨x1, x2, x3⟩ := x_copy C hs gi x
  have h1 := gi.1
  by_cases c1 : 0 ≤ x ∧ x < G 14 1
  · by_cases c2 : G 14 1 = 24
    · exact okp_co C gi (x2 c1 c2) no_0 (fun _ => ⟨by decide, fun T => rfl⟩) (fun T fT gT => (m_copy fT gT gi x).2.1 c1 c2)
    · refine okp_cx (x3 c1 c2) (ok_0 False.elim) no_e (fun T fT gT => (m_copy fT gT gi x).2.2 c1 c2) (gi.copy (by omega) (by omega) (by omega) hb) ?_
      have := (cp_t (G := G) (m := x.toNat) (t := (G 14 1).toNat) (by omega)).1.2.2.2.2.1
      omega
  · exact okp_co C gi (x1 c1) no_0 (fun _ => ⟨by decide, fun T => rfl⟩) (fun T fT gT => (m_copy fT gT gi x).1 c1)
theorem okp_shared (C : Cls sh ins pl nt wy tg G S) (hs : Stt S) (gi : GI G) (x y : Int) : OKp G S (f_X5_shared (some 0) x y S) (fun (k9 : Nat) (S9 : AS) => if k9 = 1 then rI 1 S9 else none) (fun T => f_X6_shared (some 14) x y T) True := by
  by_cases c1 : (0 ≤ x ∧ x < G 14 1) ∧ 0 ≤ y ∧ y < G 14 1
  · exact okp_co C gi ((x_shared C hs gi x y).2 c1) (ok_0 (fun _ => Bo_01 _)) no_e (fun T fT gT => (m_shared fT gT gi x y).2 c1)
  · exact okp_co C gi ((x_shared C hs gi x y).1 c1) no_0 (fun _ => ⟨by decide, fun T => rfl⟩) (fun T fT gT => (m_shared fT gT gi x y).1 c1)
theorem okp_path (C : Cls sh ins pl nt wy tg G S) (hs : Stt S) (gi : GI G) (x y z : Int) : OKp G S (f_X5_path (some 0) x y z S) (fun (k9 : Nat) (S9 : AS) => if k9 = 1 then rI 1 S9 else none) (fun T => f_X6_path (some 14) x y z T) False := by
  by_cases c1 : (0 ≤ x ∧ x < G 14 1) ∧ (0 ≤ y ∧ y < G 18 x.toNat) ∧ 0 ≤ z
  · exact okp_co C gi ((x_path C hs gi x y z).2 c1) (ok_0 False.elim) no_e (fun T fT gT => (m_path fT gT gi x y z).2 c1)
  · exact okp_co C gi ((x_path C hs gi x y z).1 c1) no_0 (fun _ => ⟨by decide, fun T => rfl⟩) (fun T fT gT => (m_path fT gT gi x y z).1 c1)
theorem okp_doubled (C : Cls sh ins pl nt wy tg G S) (hs : Stt S) (gi : GI G) (x k : Int) (hk9 : k ≤ 2147483647) : OKp G S (f_X5_doubled (some 0) x k S) (fun (k9 : Nat) (S9 : AS) => if k9 = 1 then rI 1 S9 else none) (fun T => f_X6_doubled (some 14) x k T) False := by
  by_cases c1 : (0 ≤ x ∧ x < G 14 1) ∧ 0 ≤ k
  · exact okp_co C gi ((x_doubled C hs gi x k hk9).2 c1) (ok_0 False.elim) no_e (fun T fT gT => (m_doubled fT gT gi x k hk9).2 c1)
  · exact okp_co C gi ((x_doubled C hs gi x k hk9).1 c1) no_0 (fun _ => ⟨by decide, fun T => rfl⟩) (fun T fT gT => (m_doubled fT gT gi x k hk9).1 c1)
theorem okp_open (C : Cls sh ins pl nt wy tg G S) (hs : Stt S) (gi : GI G) (x k : Int) (hk9 : k ≤ 2147483647) : OKp G S (f_X5_open (some 0) x k S) (fun (k9 : Nat) (S9 : AS) => if k9 = 1 then rI 1 S9 else none) (fun T => f_X6_open (some 14) x k T) False := by
  by_cases c1 : (0 ≤ x ∧ x < G 14 1) ∧ 0 ≤ k
  · exact okp_co C gi ((x_open C hs gi x k hk9).2 c1) (ok_0 False.elim) no_e (fun T fT gT => (m_open fT gT gi x k hk9).2 c1)
  · exact okp_co C gi ((x_open C hs gi x k hk9).1 c1) no_0 (fun _ => ⟨by decide, fun T => rfl⟩) (fun T fT gT => (m_open fT gT gi x k hk9).1 c1)
theorem okp_alike (C : Cls sh ins pl nt wy tg G S) (hs : Stt S) (gi : GI G) (x y : Int) : OKp G S (f_X5_alike (some 0) x y S) (fun (k9 : Nat) (S9 : AS) => if k9 = 1 then rI 1 S9 else none) (fun T => f_X6_alike (some 14) x y T) True := by
  haveI : Decidable (AL G x.toNat y.toNat) := Classical.propDecidable _
  by_cases c1 : (0 ≤ x ∧ x < G 14 1) ∧ 0 ≤ y ∧ y < G 14 1
  · exact okp_co C gi ((x_alike C hs gi x y).2 c1) (ok_0 (fun _ => Bo_01 _)) no_e (fun T fT gT => (m_alike fT gT gi x y).2 c1)
  · exact okp_co C gi ((x_alike C hs gi x y).1 c1) no_0 (fun _ => ⟨by decide, fun T => rfl⟩) (fun T fT gT => (m_alike fT gT gi x y).1 c1)
theorem okp_count (C : Cls sh ins pl nt wy tg G S) (hs : Stt S) (gi : GI G) (x y : Int) : OKp G S (f_X5_count (some 0) x y S) (fun (k9 : Nat) (S9 : AS) => if k9 = 1 then rI 1 S9 else none) (fun T => f_X6_count (some 14) x y T) False := by
  by_cases c1 : (0 ≤ x ∧ x < G 14 1) ∧ 0 ≤ y ∧ y < 6
  · exact okp_co C gi ((x_count C hs gi x y).2 c1) (ok_0 False.elim) no_e (fun T fT gT => (m_count fT gT gi x y).2 c1)
  · exact okp_co C gi ((x_count C hs gi x y).1 c1) no_0 (fun _ => ⟨by decide, fun T => rfl⟩) (fun T fT gT => (m_count fT gT gi x y).1 c1)
theorem okp_moduleOf (C : Cls sh ins pl nt wy tg G S) (hs : Stt S) (gi : GI G) (x y : Int) : OKp G S (f_X5_moduleOf (some 0) x y S) (fun (k9 : Nat) (S9 : AS) => if k9 = 1 then rI 1 S9 else none) (fun T => f_X6_moduleOf (some 14) x y T) False := by
  by_cases c1 : (0 ≤ x ∧ x < G 14 1) ∧ 0 ≤ y ∧ y < G 18 x.toNat
  · exact okp_co C gi ((x_moduleOf C hs gi x y).2 c1) (ok_0 False.elim) no_e (fun T fT gT => (m_moduleOf fT gT gi x y).2 c1)
  · exact okp_co C gi ((x_moduleOf C hs gi x y).1 c1) no_0 (fun _ => ⟨by decide, fun T => rfl⟩) (fun T fT gT => (m_moduleOf fT gT gi x y).1 c1)
theorem okp_flat (C : Cls sh ins pl nt wy tg G S) (hs : Stt S) (gi : GI G) (hb : G 14 9 ≤ 1000) (g : Ag G S) (x : Int) : OKp G S (f_X5_flat (some 0) x S) (fun (k9 : Nat) (S9 : AS) => if k9 = 1 then rI 1 S9 else if k9 = 2 then rI 2 S9 else if k9 = 4 then rI 3 S9 else none) (fun T => f_X6_flat (some 14) x T) False := by
  obtain ⟨rk, r1, r2⟩ := gi.rank
  obtain ⟨x1, x2, x3⟩ := x_flat C hs gi r1 r2 x
  have h1 := gi.1
  by_cases c1 : 0 ≤ x ∧ x < G 14 1
  · by_cases c2 : G 14 1 = 24
    · exact okp_cx (x2 c1 c2) no_0 (fun _ => ⟨by decide, fun T => rfl⟩) (fun T fT gT => (m_flat fT gT gi r1 r2 x).2.1 c1 c2) gi (by omega)
    · obtain ⟨m, hm⟩ : ∃ m : Nat, x = m := ⟨x.toNat, by omega⟩
      obtain ⟨t, ht⟩ : ∃ t : Nat, G 14 1 = t := ⟨(G 14 1).toNat, by omega⟩
      obtain ⟨w, hwd⟩ : ∃ w, w = wk G 24 0 m (w0 m) := ⟨_, rfl⟩
      obtain ⟨N, hNd⟩ : ∃ N, N = (fst G w (wn w)).toNat := ⟨_, rfl⟩
      have hmt : m < t := by omega
      have hmm : (m : Int) < G 14 1 := by omega
      obtain ⟨x4, x5⟩ := x3 m t w N hm hmt ht (by omega) hwd hNd
      have mf : ∀ T, Fix T → Ag G T → (64 < wl w → MO T (f_X6_flat (some 14) x T) 3 0 G) ∧ (wl w ≤ 64 → (3000 < fst G w (wn w) → MO T (f_X6_flat (some 14) x T) 3 0 G) ∧ (fst G w (wn w) ≤ 3000 → ∃ l, Lb (EE G w) N l ∧ (128 < cnt (fun i => decide (l i = i)) N → MO T (f_X6_flat (some 14) x T) 3 0 G) ∧ (cnt (fun i => decide (l i = i)) N ≤ 128 → ∃ G', MO T (f_X6_flat (some 14) x T) 0 t G' ∧ Fs G G' m t w l (cnt (fun i => decide (l i = i)) N)))) := fun T fT gT => by
        have := (m_flat fT gT gi r1 r2 x).2.2 m t hm hmt ht (by omega)
        rw [← hwd, ← hNd] at this
        exact this
      by_cases c3 : wl w ≤ 64
      · obtain ⟨x6, x7⟩ := x5 c3
        by_cases c4 : fst G w (wn w) ≤ 3000
        · obtain ⟨l0, lb0, -⟩ := ((mf S hs.1 g).2 c3).2 c4
          have same : ∀ l1, Lb (EE G w) N l1 → cnt (fun i => decide (l1 i = i)) N = cnt (fun i => decide (l0 i = i)) N := fun l1 lb1 => cnt_congr _ (fun k hk9 => by rw [lb1.un lb0 hk9])
          by_cases c5 : cnt (fun i => decide (l0 i = i)) N ≤ 128
          · obtain ⟨V, e1, fr, bd, le, cl9⟩ := (x7 c4 l0 lb0).2 c5
            refine ⟨0, (t : Int), 0, V, e1, ok_0 False.elim, no_e, fr, bd, le, fun T fT gT => ?_⟩
            obtain ⟨l1, lb1, -, q⟩ := ((mf T fT gT).2 c3).2 c4
            obtain ⟨G', mo, fs⟩ := q (by rw [same l1 lb1]; exact c5)
            obtain ⟨V1, e2, -, -, -, cl1⟩ := (x7 c4 l1 lb1).2 (by rw [same l1 lb1]; exact c5)
            have eV : V1 = V := by
              rw [e1] at e2
              exact ((Prod.mk.inj (Option.some.inj e2)).2).symm
            have wok := wk_ok gi r2 24 0 m (w0 m) (w0_f hmm r1) (Nat.lt_succ_self _) rfl (by have := r1 m hmm; omega)
            rw [← hwd] at wok
            have p0 := (fst_up gi wok.2.1 0 (wn w) (Nat.le_refl _)).1
            refine ⟨G', mo, gi.flat wok.2.1 fs (by omega) hmt (by omega) lb1 rfl (by rw [same l1 lb1]; exact c5) c3 hb, ?_, ?_⟩
            · have := fs.2.2.1.2.2.2
              omega
            · have := cl1 G' fs
              rw [eV] at this
              exact this
          · refine okp_cx ((x7 c4 l0 lb0).1 (by omega)) no_0 (fun _ => ⟨by decide, fun T => rfl⟩) (fun T fT gT => ?_) gi (by omega)
            obtain ⟨l1, lb1, q, -⟩ := ((mf T fT gT).2 c3).2 c4
            exact q (by rw [same l1 lb1]; omega)
        · exact okp_cx (x6 (by omega)) no_0 (fun _ => ⟨by decide, fun T => rfl⟩) (fun T fT gT => ((mf T fT gT).2 c3).1 (by omega)) gi (by omega)
      · exact okp_cx (x4 (by omega)) no_0 (fun _ => ⟨by decide, fun T => rfl⟩) (fun T fT gT => (mf T fT gT).1 (by omega)) gi (by omega)
  · exact okp_cx (x1 c1) no_0 (fun _ => ⟨by decide, fun T => rfl⟩) (fun T fT gT => (m_flat fT gT gi r1 r2 x).1 c1) gi (by omega)
end
