noncomputable def f_X6_thrown (a0 : Option Nat) (S : AS) : Option RS :=
  (gI S a0 7 0).bind fun v1 =>
  rI v1 S
set_option maxHeartbeats 4000000 in
set_option maxRecDepth 100000 in
theorem m_X6_thrown {l : Launch} {b : Nat} {D : va_G} {dA : Nat → ClassId} (hst : l.stackTraces = false) {a0 : Option Nat} {S : AS} {q : RS} (h : f_X6_thrown a0 S = some q) : hp_M l b D dA yX6_thrown cX6_thrown 1 (some .int) 6 16 [rf b a0] S 1 q := by
  have hcat : ∀ v ∈ ([rf b a0] : List Value), v.category = 1 := (by intro v hv; simp only [List.mem_cons, List.not_mem_nil, or_false] at hv; rcases hv with rfl <;> first | exact cat_iv _ | exact cat_rf _ _)
  refine hp_ofJ (own := RX6) hst (by decide +kernel) rfl hcat (Nat.le_of_ble_eq_true rfl) ?_
  intro p e R s m args below meth c C hT hnm hr ls hl9
  have hl : hp_L ls 1 [(0, rf b a0)] := hp_L.of hl9 hcat
  unfold f_X6_thrown at h
  refine j_aload_n C dX6_thrown_0 rfl (hl.at 0 rfl) ?_
  obtain ⟨v1, g_v1, h⟩ := bd h
  refine j_gI C dX6_thrown_1 fl_RX6_85 (Or.inl rfl) g_v1 (fun hv1 => ?_)
  exact j_iret C dX6_thrown_4 hr hv1 h
noncomputable def f_X6_isIn (x0 : Int) (x1 : Int) (S : AS) : Option RS :=
  if x0 < 0 then
    rZ 0 S
  else
    if x1 ≤ x0 then
      rZ 0 S
    else
      rZ 1 S
set_option maxHeartbeats 4000000 in
set_option maxRecDepth 100000 in
theorem m_X6_isIn {l : Launch} {b : Nat} {D : va_G} {dA : Nat → ClassId} (hst : l.stackTraces = false) {x0 : Int} {x1 : Int} {S : AS} {q : RS} (hx0 : inR x0) (hx1 : inR x1) (h : f_X6_isIn x0 x1 S = some q) : hp_M l b D dA yX6_isIn cX6_isIn 2 (some .boolean) 6 16 [iv x0, iv x1] S 1 q := by
  have hcat : ∀ v ∈ ([iv x0, iv x1] : List Value), v.category = 1 := (by intro v hv; simp only [List.mem_cons, List.not_mem_nil, or_false] at hv; rcases hv with rfl | rfl <;> first | exact cat_iv _ | exact cat_rf _ _)
  refine hp_ofJ (own := RX6) hst (by decide +kernel) rfl hcat (Nat.le_of_ble_eq_true rfl) ?_
  intro p e R s m args below meth c C hT hnm hr ls hl9
  have hl : hp_L ls 2 [(0, iv x0), (1, iv x1)] := hp_L.of hl9 hcat
  unfold f_X6_isIn at h
  refine j_iload_n C dX6_isIn_0 rfl (hl.at 0 rfl) ?_
  refine j_if_lt (tgt := 13) C dX6_isIn_1 (by decide) hx0 (fun b1 => ?_) (fun b1 => ?_)
  · rw [if_pos b1] at h
    refine j_iconst C dX6_isIn_13 ?_
    exact j_zret C dX6_isIn_14 hr h
  · rw [if_neg b1] at h
    refine j_iload_n C dX6_isIn_4 rfl (hl.at 0 rfl) ?_
    refine j_iload_n C dX6_isIn_5 rfl (hl.at 1 rfl) ?_
    refine j_icmp_ge (tgt := 13) C dX6_isIn_6 (by decide) hx0 hx1 (fun b1 => ?_) (fun b1 => ?_)
    · rw [if_pos b1] at h
      refine j_iconst C dX6_isIn_13 ?_
      exact j_zret C dX6_isIn_14 hr h
    · rw [if_neg b1] at h
      refine j_iconst C dX6_isIn_9 ?_
      refine j_goto (tgt := 14) C dX6_isIn_10 (by decide) ?_
      exact j_zret C dX6_isIn_14 hr h
noncomputable def f_X6_refused_18 (a0 : Option Nat) (t0 : Int) (u1 : Option Nat) (S : AS) : Option RS :=
  (pI S u1 7 0 t0).bind fun S1 =>
  (gI S1 a0 7 0).bind fun v2 =>
  if v2 ≤ 0 then
    rZ 0 S1
  else
    rZ 1 S1
set_option maxHeartbeats 4000000 in
set_option maxRecDepth 100000 in
theorem w_X6_refused_18 {p : Program} {l : Launch} {e : Env} {R : Room} {s : State} {m : MethodId} {args : Array Value} {below : List Frame} {meth : Method} {c : Code} {b : Nat} {D : va_G} {dA : Nat → ClassId} {S0 : AS} {q : RS} (C : hp_C p l e R s m args below meth c b D dA S0 RX6 cX6_refused 3 6 16) (hT : ∀ x ∈ c.exceptionTable.toList, False) (hnm : meth.name = "refused") (hr : meth.sig.returnType = (some .boolean)) : ∀ (a0 : Option Nat) (t0 : Int) (u1 : Option Nat) (S : AS), inR t0 → f_X6_refused_18 a0 t0 u1 S = some q → ∀ ls : Array Slot, hp_L ls 3 [(0, rf b a0)] → hp_J p l e R s m args below meth c b D dA S0 (hp_Q below b D dA S0 1 q args s) S 18 ls [iv t0, rf b u1] := by
  have hst : l.stackTraces = false := C.2.2.2.2.2.2.2.2.2.2.1
  intro a0 t0 u1 S ht0 h ls hl
  unfold f_X6_refused_18 at h
  obtain ⟨S1, g_S1, h⟩ := bd h
  refine j_pI C dX6_refused_18 fl_RX6_85 (Or.inl rfl) rfl ht0 g_S1 ?_
  refine j_aload_n C dX6_refused_21 rfl (hl.at 0 rfl) ?_
  obtain ⟨v2, g_v2, h⟩ := bd h
  refine j_gI C dX6_refused_22 fl_RX6_85 (Or.inl rfl) g_v2 (fun hv2 => ?_)
  refine j_if_le (tgt := 32) C dX6_refused_25 (by decide) hv2 (fun b1 => ?_) (fun b1 => ?_)
  · rw [if_pos b1] at h
    refine j_iconst C dX6_refused_32 ?_
    exact j_zret C dX6_refused_33 hr h
  · rw [if_neg b1] at h
    refine j_iconst C dX6_refused_28 ?_
    refine j_goto (tgt := 33) C dX6_refused_29 (by decide) ?_
    exact j_zret C dX6_refused_33 hr h
noncomputable def f_X6_refused (a0 : Option Nat) (x1 : Int) (x2 : Int) (S : AS) : Option RS :=
  if x1 = 0 then
    if x2 = 0 then
      f_X6_refused_18 a0 0 a0 S
    else
      f_X6_refused_18 a0 2 a0 S
  else
    f_X6_refused_18 a0 1 a0 S
set_option maxHeartbeats 4000000 in
set_option maxRecDepth 100000 in
theorem m_X6_refused {l : Launch} {b : Nat} {D : va_G} {dA : Nat → ClassId} (hst : l.stackTraces = false) {a0 : Option Nat} {x1 : Int} {x2 : Int} {S : AS} {q : RS} (hx1 : inR x1) (hx2 : inR x2) (h : f_X6_refused a0 x1 x2 S = some q) : hp_M l b D dA yX6_refused cX6_refused 3 (some .boolean) 6 16 [rf b a0, iv x1, iv x2] S 1 q := by
  have hcat : ∀ v ∈ ([rf b a0, iv x1, iv x2] : List Value), v.category = 1 := (by intro v hv; simp only [List.mem_cons, List.not_mem_nil, or_false] at hv; rcases hv with rfl | rfl | rfl <;> first | exact cat_iv _ | exact cat_rf _ _)
  refine hp_ofJ (own := RX6) hst (by decide +kernel) rfl hcat (Nat.le_of_ble_eq_true rfl) ?_
  intro p e R s m args below meth c C hT hnm hr ls hl9
  have hl : hp_L ls 3 [(0, rf b a0), (1, iv x1), (2, iv x2)] := hp_L.of hl9 hcat
  unfold f_X6_refused at h
  refine j_aload_n C dX6_refused_0 rfl (hl.at 0 rfl) ?_
  refine j_iload_n C dX6_refused_1 rfl (hl.at 1 rfl) ?_
  refine j_if_eq (tgt := 9) C dX6_refused_2 (by decide) hx1 (fun b1 => ?_) (fun b1 => ?_)
  · rw [if_pos b1] at h
    refine j_iload_n C dX6_refused_9 rfl (hl.at 2 rfl) ?_
    refine j_if_eq (tgt := 17) C dX6_refused_10 (by decide) hx2 (fun b1 => ?_) (fun b1 => ?_)
    · rw [if_pos b1] at h
      refine j_iconst C dX6_refused_17 ?_
      exact w_X6_refused_18 C hT hnm hr _ _ _ _ (by decide) h ls (hl.sub [0] rfl)
    · rw [if_neg b1] at h
      refine j_iconst C dX6_refused_13 ?_
      refine j_goto (tgt := 18) C dX6_refused_14 (by decide) ?_
      exact w_X6_refused_18 C hT hnm hr _ _ _ _ (by decide) h ls (hl.sub [0] rfl)
  · rw [if_neg b1] at h
    refine j_iconst C dX6_refused_5 ?_
    refine j_goto (tgt := 18) C dX6_refused_6 (by decide) ?_
    exact w_X6_refused_18 C hT hnm hr _ _ _ _ (by decide) h ls (hl.sub [0] rfl)
noncomputable def f_X6_begin_71 (n : Nat) (a0 : Option Nat) (x1 : Int) (x2 : Int) (S : AS) : Option RS := match n with
  | 0 => none
  | n + 1 =>
    if 64 ≤ x2 then
      rV S
    else
      (gR S a0 7 11).bind fun o1 =>
      (chk (64 * x1)).bind fun z2 =>
      (chk (z2 + x2)).bind fun z3 =>
      (sI S o1 8 z3 0).bind fun S4 =>
      (chk (x2 + 1)).bind fun z5 =>
      f_X6_begin_71 n a0 x1 z5 S4
set_option maxHeartbeats 4000000 in
set_option maxRecDepth 100000 in
theorem w_X6_begin_71 {p : Program} {l : Launch} {e : Env} {R : Room} {s : State} {m : MethodId} {args : Array Value} {below : List Frame} {meth : Method} {c : Code} {b : Nat} {D : va_G} {dA : Nat → ClassId} {S0 : AS} {q : RS} (C : hp_C p l e R s m args below meth c b D dA S0 RX6 cX6_begin 3 6 16) (hT : ∀ x ∈ c.exceptionTable.toList, False) (hnm : meth.name = "begin") (hr : meth.sig.returnType = none) : ∀ (n : Nat), ∀ (a0 : Option Nat) (x1 : Int) (x2 : Int) (S : AS), inR x1 → inR x2 → f_X6_begin_71 n a0 x1 x2 S = some q → ∀ ls : Array Slot, hp_L ls 3 [(0, rf b a0), (1, iv x1), (2, iv x2)] → hp_J p l e R s m args below meth c b D dA S0 (hp_Q below b D dA S0 0 q args s) S 71 ls [] := by
  have hst : l.stackTraces = false := C.2.2.2.2.2.2.2.2.2.2.1
  intro n
  induction n with
  | zero =>
    intro a0 x1 x2 S hx1 hx2 h
    cases h
  | succ n ih =>
    intro a0 x1 x2 S hx1 hx2 h ls hl
    unfold f_X6_begin_71 at h
    refine j_iload_n C dX6_begin_71 rfl (hl.at 2 rfl) ?_
    refine j_bipush (x := 64) C dX6_begin_72 (by decide) ?_
    refine j_icmp_ge (tgt := 95) C dX6_begin_74 (by decide) hx2 (by decide) (fun b1 => ?_) (fun b1 => ?_)
    · rw [if_pos b1] at h
      exact j_vret C dX6_begin_95 hr h
    · rw [if_neg b1] at h
      refine j_aload_n C dX6_begin_77 rfl (hl.at 0 rfl) ?_
      obtain ⟨o1, g_o1, h⟩ := bd h
      refine j_gR C dX6_begin_78 fl_RX6_36 rfl g_o1 ?_
      refine j_bipush (x := 64) C dX6_begin_81 (by decide) ?_
      refine j_iload_n C dX6_begin_83 rfl (hl.at 1 rfl) ?_
      obtain ⟨z2, g_z2, h⟩ := bd h
      refine j_imul C dX6_begin_84 g_z2 (fun hz2 => ?_)
      refine j_iload_n C dX6_begin_85 rfl (hl.at 2 rfl) ?_
      obtain ⟨z3, g_z3, h⟩ := bd h
      refine j_iadd C dX6_begin_86 g_z3 (fun hz3 => ?_)
      refine j_iconst C dX6_begin_87 ?_
      obtain ⟨S4, g_S4, h⟩ := bd h
      refine j_iast C dX6_begin_88 hz3 (by decide) g_S4 ?_
      obtain ⟨z5, g_z5, h⟩ := bd h
      refine k_iinc (k9 := 2) (lv' := [(2, iv z5), (0, rf b a0), (1, iv x1)]) C dX6_begin_89 hl rfl g_z5 (by decide) rfl (fun hz5 ls hl => ?_)
      refine j_goto (tgt := 71) C dX6_begin_92 (by decide) ?_
      exact ih _ _ _ _ hx1 hz5 h ls (hl.sub [1, 2, 0] rfl)
noncomputable def f_X6_begin_43 (n : Nat) (a0 : Option Nat) (x1 : Int) (x2 : Int) (S : AS) : Option RS := match n with
  | 0 => none
  | n + 1 =>
    if 8320 ≤ x2 then
      f_X6_begin_71 FU a0 x1 0 S
    else
      (gR S a0 7 10).bind fun o1 =>
      (chk (8320 * x1)).bind fun z2 =>
      (chk (z2 + x2)).bind fun z3 =>
      (sI S o1 8 z3 (-1)).bind fun S4 =>
      (chk (x2 + 1)).bind fun z5 =>
      f_X6_begin_43 n a0 x1 z5 S4
set_option maxHeartbeats 4000000 in
set_option maxRecDepth 100000 in
theorem w_X6_begin_43 {p : Program} {l : Launch} {e : Env} {R : Room} {s : State} {m : MethodId} {args : Array Value} {below : List Frame} {meth : Method} {c : Code} {b : Nat} {D : va_G} {dA : Nat → ClassId} {S0 : AS} {q : RS} (C : hp_C p l e R s m args below meth c b D dA S0 RX6 cX6_begin 3 6 16) (hT : ∀ x ∈ c.exceptionTable.toList, False) (hnm : meth.name = "begin") (hr : meth.sig.returnType = none) : ∀ (n : Nat), ∀ (a0 : Option Nat) (x1 : Int) (x2 : Int) (S : AS), inR x1 → inR x2 → f_X6_begin_43 n a0 x1 x2 S = some q → ∀ ls : Array Slot, hp_L ls 3 [(0, rf b a0), (1, iv x1), (2, iv x2)] → hp_J p l e R s m args below meth c b D dA S0 (hp_Q below b D dA S0 0 q args s) S 43 ls [] := by
  have hst : l.stackTraces = false := C.2.2.2.2.2.2.2.2.2.2.1
  intro n
  induction n with
  | zero =>
    intro a0 x1 x2 S hx1 hx2 h
    cases h
  | succ n ih =>
    intro a0 x1 x2 S hx1 hx2 h ls hl
    unfold f_X6_begin_43 at h
    refine j_iload_n C dX6_begin_43 rfl (hl.at 2 rfl) ?_
    refine j_sipush (x := 8320) C dX6_begin_44 (by decide) ?_
    refine j_icmp_ge (tgt := 69) C dX6_begin_47 (by decide) hx2 (by decide) (fun b1 => ?_) (fun b1 => ?_)
    · rw [if_pos b1] at h
      refine j_iconst C dX6_begin_69 ?_
      refine k_istore_n (lv' := [(2, iv 0), (0, rf b a0), (1, iv x1)]) C dX6_begin_70 rfl hl (by decide) rfl (fun ls hl => ?_)
      exact w_X6_begin_71 C hT hnm hr FU _ _ _ _ hx1 (by decide) h ls (hl.sub [1, 2, 0] rfl)
    · rw [if_neg b1] at h
      refine j_aload_n C dX6_begin_50 rfl (hl.at 0 rfl) ?_
      obtain ⟨o1, g_o1, h⟩ := bd h
      refine j_gR C dX6_begin_51 fl_RX6_33 rfl g_o1 ?_
      refine j_sipush (x := 8320) C dX6_begin_54 (by decide) ?_
      refine j_iload_n C dX6_begin_57 rfl (hl.at 1 rfl) ?_
      obtain ⟨z2, g_z2, h⟩ := bd h
      refine j_imul C dX6_begin_58 g_z2 (fun hz2 => ?_)
      refine j_iload_n C dX6_begin_59 rfl (hl.at 2 rfl) ?_
      obtain ⟨z3, g_z3, h⟩ := bd h
      refine j_iadd C dX6_begin_60 g_z3 (fun hz3 => ?_)
      refine j_iconst C dX6_begin_61 ?_
      obtain ⟨S4, g_S4, h⟩ := bd h
      refine j_iast C dX6_begin_62 hz3 (by decide) g_S4 ?_
      obtain ⟨z5, g_z5, h⟩ := bd h
      refine k_iinc (k9 := 2) (lv' := [(2, iv z5), (0, rf b a0), (1, iv x1)]) C dX6_begin_63 hl rfl g_z5 (by decide) rfl (fun hz5 ls hl => ?_)
      refine j_goto (tgt := 43) C dX6_begin_66 (by decide) ?_
      exact ih _ _ _ _ hx1 hz5 h ls (hl.sub [1, 2, 0] rfl)
noncomputable def f_X6_begin (a0 : Option Nat) (x1 : Int) (S : AS) : Option RS :=
  (gR S a0 7 2).bind fun o1 =>
  (sI S o1 8 x1 0).bind fun S2 =>
  (gR S2 a0 7 5).bind fun o3 =>
  (sI S2 o3 8 x1 0).bind fun S4 =>
  (gR S4 a0 7 7).bind fun o5 =>
  (sI S4 o5 8 x1 0).bind fun S6 =>
  (gI S6 a0 7 9).bind fun v7 =>
  (chk (v7 + 1)).bind fun z8 =>
  (pI S6 a0 7 9 z8).bind fun S9 =>
  (gR S9 a0 7 8).bind fun o10 =>
  (gI S9 a0 7 9).bind fun v11 =>
  (sI S9 o10 8 x1 v11).bind fun S12 =>
  f_X6_begin_43 FU a0 x1 0 S12
set_option maxHeartbeats 4000000 in
set_option maxRecDepth 100000 in
theorem m_X6_begin {l : Launch} {b : Nat} {D : va_G} {dA : Nat → ClassId} (hst : l.stackTraces = false) {a0 : Option Nat} {x1 : Int} {S : AS} {q : RS} (hx1 : inR x1) (h : f_X6_begin a0 x1 S = some q) : hp_M l b D dA yX6_begin cX6_begin 3 none 6 16 [rf b a0, iv x1] S 0 q := by
  have hcat : ∀ v ∈ ([rf b a0, iv x1] : List Value), v.category = 1 := (by intro v hv; simp only [List.mem_cons, List.not_mem_nil, or_false] at hv; rcases hv with rfl | rfl <;> first | exact cat_iv _ | exact cat_rf _ _)
  refine hp_ofJ (own := RX6) hst (by decide +kernel) rfl hcat (Nat.le_of_ble_eq_true rfl) ?_
  intro p e R s m args below meth c C hT hnm hr ls hl9
  have hl : hp_L ls 3 [(0, rf b a0), (1, iv x1)] := hp_L.of hl9 hcat
  unfold f_X6_begin at h
  refine j_aload_n C dX6_begin_0 rfl (hl.at 0 rfl) ?_
  obtain ⟨o1, g_o1, h⟩ := bd h
  refine j_gR C dX6_begin_1 fl_RX6_7 rfl g_o1 ?_
  refine j_iload_n C dX6_begin_4 rfl (hl.at 1 rfl) ?_
  refine j_iconst C dX6_begin_5 ?_
  obtain ⟨S2, g_S2, h⟩ := bd h
  refine j_iast C dX6_begin_6 hx1 (by decide) g_S2 ?_
  refine j_aload_n C dX6_begin_7 rfl (hl.at 0 rfl) ?_
  obtain ⟨o3, g_o3, h⟩ := bd h
  refine j_gR C dX6_begin_8 fl_RX6_20 rfl g_o3 ?_
  refine j_iload_n C dX6_begin_11 rfl (hl.at 1 rfl) ?_
  refine j_iconst C dX6_begin_12 ?_
  obtain ⟨S4, g_S4, h⟩ := bd h
  refine j_iast C dX6_begin_13 hx1 (by decide) g_S4 ?_
  refine j_aload_n C dX6_begin_14 rfl (hl.at 0 rfl) ?_
  obtain ⟨o5, g_o5, h⟩ := bd h
  refine j_gR C dX6_begin_15 fl_RX6_26 rfl g_o5 ?_
  refine j_iload_n C dX6_begin_18 rfl (hl.at 1 rfl) ?_
  refine j_iconst C dX6_begin_19 ?_
  obtain ⟨S6, g_S6, h⟩ := bd h
  refine j_iast C dX6_begin_20 hx1 (by decide) g_S6 ?_
  refine j_aload_n C dX6_begin_21 rfl (hl.at 0 rfl) ?_
  refine j_dup C dX6_begin_22 (cat_rf _ _) ?_
  obtain ⟨v7, g_v7, h⟩ := bd h
  refine j_gI C dX6_begin_23 fl_RX6_96 (Or.inl rfl) g_v7 (fun hv7 => ?_)
  refine j_iconst C dX6_begin_26 ?_
  obtain ⟨z8, g_z8, h⟩ := bd h
  refine j_iadd C dX6_begin_27 g_z8 (fun hz8 => ?_)
  obtain ⟨S9, g_S9, h⟩ := bd h
  refine j_pI C dX6_begin_28 fl_RX6_96 (Or.inl rfl) rfl hz8 g_S9 ?_
  refine j_aload_n C dX6_begin_31 rfl (hl.at 0 rfl) ?_
  obtain ⟨o10, g_o10, h⟩ := bd h
  refine j_gR C dX6_begin_32 fl_RX6_29 rfl g_o10 ?_
  refine j_iload_n C dX6_begin_35 rfl (hl.at 1 rfl) ?_
  refine j_aload_n C dX6_begin_36 rfl (hl.at 0 rfl) ?_
  obtain ⟨v11, g_v11, h⟩ := bd h
  refine j_gI C dX6_begin_37 fl_RX6_96 (Or.inl rfl) g_v11 (fun hv11 => ?_)
  obtain ⟨S12, g_S12, h⟩ := bd h
  refine j_iast C dX6_begin_40 hx1 hv11 g_S12 ?_
  refine j_iconst C dX6_begin_41 ?_
  refine k_istore_n (lv' := [(2, iv 0), (0, rf b a0), (1, iv x1)]) C dX6_begin_42 rfl hl (by decide) rfl (fun ls hl => ?_)
  exact w_X6_begin_43 C hT hnm hr FU _ _ _ _ hx1 (by decide) h ls (hl.sub [1, 2, 0] rfl)
noncomputable def f_X6_isUsed_12 (n : Nat) (k2 : Option Nat → Int → Int → AS → Option RS) (a0 : Option Nat) (x1 : Int) (x2 : Int) (x3 : Int) (S : AS) : Option RS := match n with
  | 0 => none
  | n + 1 =>
    (gR S a0 7 5).bind fun o1 =>
    (aI S o1 8 x2).bind fun v2 =>
    if v2 ≤ x3 then
      (chk (x2 + 1)).bind fun z3 =>
      k2 a0 x1 z3 S
    else
      (gR S a0 7 6).bind fun o4 =>
      (chk (64 * x2)).bind fun z5 =>
      (chk (z5 + x3)).bind fun z6 =>
      (aI S o4 8 z6).bind fun v7 =>
      if v7 = x1 then
        rZ 1 S
      else
        (chk (x3 + 1)).bind fun z8 =>
        f_X6_isUsed_12 n k2 a0 x1 x2 z8 S
set_option maxHeartbeats 4000000 in
set_option maxRecDepth 100000 in
theorem w_X6_isUsed_12 {p : Program} {l : Launch} {e : Env} {R : Room} {s : State} {m : MethodId} {args : Array Value} {below : List Frame} {meth : Method} {c : Code} {b : Nat} {D : va_G} {dA : Nat → ClassId} {S0 : AS} {q : RS} (C : hp_C p l e R s m args below meth c b D dA S0 RX6 cX6_isUsed 4 6 16) (hT : ∀ x ∈ c.exceptionTable.toList, False) (hnm : meth.name = "isUsed") (hr : meth.sig.returnType = (some .boolean)) {k2 : Option Nat → Int → Int → AS → Option RS} (hk2 : ∀ (a0 : Option Nat) (x1 : Int) (x2 : Int) (S : AS), inR x1 → inR x2 → k2 a0 x1 x2 S = some q → ∀ ls : Array Slot, hp_L ls 4 [(0, rf b a0), (1, iv x1), (2, iv x2)] → hp_J p l e R s m args below meth c b D dA S0 (hp_Q below b D dA S0 1 q args s) S 2 ls []) : ∀ (n : Nat), ∀ (a0 : Option Nat) (x1 : Int) (x2 : Int) (x3 : Int) (S : AS), inR x1 → inR x2 → inR x3 → f_X6_isUsed_12 n k2 a0 x1 x2 x3 S = some q → ∀ ls : Array Slot, hp_L ls 4 [(0, rf b a0), (1, iv x1), (2, iv x2), (3, iv x3)] → hp_J p l e R s m args below meth c b D dA S0 (hp_Q below b D dA S0 1 q args s) S 12 ls [] := by
  have hst : l.stackTraces = false := C.2.2.2.2.2.2.2.2.2.2.1
  intro n
  induction n with
  | zero =>
    intro a0 x1 x2 x3 S hx1 hx2 hx3 h
    cases h
  | succ n ih =>
    intro a0 x1 x2 x3 S hx1 hx2 hx3 h ls hl
    unfold f_X6_isUsed_12 at h
    refine j_iload_n C dX6_isUsed_12 rfl (hl.at 3 rfl) ?_
    refine j_aload_n C dX6_isUsed_13 rfl (hl.at 0 rfl) ?_
    obtain ⟨o1, g_o1, h⟩ := bd h
    refine j_gR C dX6_isUsed_14 fl_RX6_20 rfl g_o1 ?_
    refine j_iload_n C dX6_isUsed_17 rfl (hl.at 2 rfl) ?_
    obtain ⟨v2, g_v2, h⟩ := bd h
    refine j_iald C dX6_isUsed_18 hx2 g_v2 (fun hv2 => ?_)
    refine j_icmp_ge (tgt := 45) C dX6_isUsed_19 (by decide) hx3 hv2 (fun b1 => ?_) (fun b1 => ?_)
    · rw [if_pos b1] at h
      obtain ⟨z3, g_z3, h⟩ := bd h
      refine k_iinc (k9 := 2) (lv' := [(2, iv z3), (0, rf b a0), (1, iv x1), (3, iv x3)]) C dX6_isUsed_45 hl rfl g_z3 (by decide) rfl (fun hz3 ls hl => ?_)
      refine j_goto (tgt := 2) C dX6_isUsed_48 (by decide) ?_
      exact hk2 _ _ _ _ hx1 hz3 h ls (hl.sub [1, 2, 0] rfl)
    · rw [if_neg b1] at h
      refine j_aload_n C dX6_isUsed_22 rfl (hl.at 0 rfl) ?_
      obtain ⟨o4, g_o4, h⟩ := bd h
      refine j_gR C dX6_isUsed_23 fl_RX6_23 rfl g_o4 ?_
      refine j_bipush (x := 64) C dX6_isUsed_26 (by decide) ?_
      refine j_iload_n C dX6_isUsed_28 rfl (hl.at 2 rfl) ?_
      obtain ⟨z5, g_z5, h⟩ := bd h
      refine j_imul C dX6_isUsed_29 g_z5 (fun hz5 => ?_)
      refine j_iload_n C dX6_isUsed_30 rfl (hl.at 3 rfl) ?_
      obtain ⟨z6, g_z6, h⟩ := bd h
      refine j_iadd C dX6_isUsed_31 g_z6 (fun hz6 => ?_)
      obtain ⟨v7, g_v7, h⟩ := bd h
      refine j_iald C dX6_isUsed_32 hz6 g_v7 (fun hv7 => ?_)
      refine j_iload_n C dX6_isUsed_33 rfl (hl.at 1 rfl) ?_
      refine j_icmp_ne (tgt := 39) C dX6_isUsed_34 (by decide) hv7 hx1 (fun b1 => ?_) (fun b1 => ?_)
      · rw [if_neg b1] at h
        obtain ⟨z8, g_z8, h⟩ := bd h
        refine k_iinc (k9 := 3) (lv' := [(3, iv z8), (0, rf b a0), (1, iv x1), (2, iv x2)]) C dX6_isUsed_39 hl rfl g_z8 (by decide) rfl (fun hz8 ls hl => ?_)
        refine j_goto (tgt := 12) C dX6_isUsed_42 (by decide) ?_
        exact ih _ _ _ _ _ hx1 hx2 hz8 h ls (hl.sub [1, 2, 3, 0] rfl)
      · rw [if_pos (Decidable.byContradiction b1)] at h
        refine j_iconst C dX6_isUsed_37 ?_
        exact j_zret C dX6_isUsed_38 hr h
noncomputable def f_X6_isUsed_2 (n : Nat) (a0 : Option Nat) (x1 : Int) (x2 : Int) (S : AS) : Option RS := match n with
  | 0 => none
  | n + 1 =>
    (gI S a0 7 1).bind fun v1 =>
    if v1 ≤ x2 then
      rZ 0 S
    else
      f_X6_isUsed_12 FU (f_X6_isUsed_2 n) a0 x1 x2 0 S
set_option maxHeartbeats 4000000 in
set_option maxRecDepth 100000 in
theorem w_X6_isUsed_2 {p : Program} {l : Launch} {e : Env} {R : Room} {s : State} {m : MethodId} {args : Array Value} {below : List Frame} {meth : Method} {c : Code} {b : Nat} {D : va_G} {dA : Nat → ClassId} {S0 : AS} {q : RS} (C : hp_C p l e R s m args below meth c b D dA S0 RX6 cX6_isUsed 4 6 16) (hT : ∀ x ∈ c.exceptionTable.toList, False) (hnm : meth.name = "isUsed") (hr : meth.sig.returnType = (some .boolean)) : ∀ (n : Nat), ∀ (a0 : Option Nat) (x1 : Int) (x2 : Int) (S : AS), inR x1 → inR x2 → f_X6_isUsed_2 n a0 x1 x2 S = some q → ∀ ls : Array Slot, hp_L ls 4 [(0, rf b a0), (1, iv x1), (2, iv x2)] → hp_J p l e R s m args below meth c b D dA S0 (hp_Q below b D dA S0 1 q args s) S 2 ls [] := by
  have hst : l.stackTraces = false := C.2.2.2.2.2.2.2.2.2.2.1
  intro n
  induction n with
  | zero =>
    intro a0 x1 x2 S hx1 hx2 h
    cases h
  | succ n ih =>
    intro a0 x1 x2 S hx1 hx2 h ls hl
    unfold f_X6_isUsed_2 at h
    refine j_iload_n C dX6_isUsed_2 rfl (hl.at 2 rfl) ?_
    refine j_aload_n C dX6_isUsed_3 rfl (hl.at 0 rfl) ?_
    obtain ⟨v1, g_v1, h⟩ := bd h
    refine j_gI C dX6_isUsed_4 fl_RX6_89 (Or.inl rfl) g_v1 (fun hv1 => ?_)
    refine j_icmp_ge (tgt := 51) C dX6_isUsed_7 (by decide) hx2 hv1 (fun b1 => ?_) (fun b1 => ?_)
    · rw [if_pos b1] at h
      refine j_iconst C dX6_isUsed_51 ?_
      exact j_zret C dX6_isUsed_52 hr h
    · rw [if_neg b1] at h
      refine j_iconst C dX6_isUsed_10 ?_
      refine k_istore_n (lv' := [(3, iv 0), (0, rf b a0), (1, iv x1), (2, iv x2)]) C dX6_isUsed_11 rfl hl (by decide) rfl (fun ls hl => ?_)
      exact w_X6_isUsed_12 C hT hnm hr ih FU _ _ _ _ _ hx1 hx2 (by decide) h ls (hl.sub [1, 2, 3, 0] rfl)
noncomputable def f_X6_isUsed (a0 : Option Nat) (x1 : Int) (S : AS) : Option RS :=
  f_X6_isUsed_2 FU a0 x1 0 S
set_option maxHeartbeats 4000000 in
set_option maxRecDepth 100000 in
theorem m_X6_isUsed {l : Launch} {b : Nat} {D : va_G} {dA : Nat → ClassId} (hst : l.stackTraces = false) {a0 : Option Nat} {x1 : Int} {S : AS} {q : RS} (hx1 : inR x1) (h : f_X6_isUsed a0 x1 S = some q) : hp_M l b D dA yX6_isUsed cX6_isUsed 4 (some .boolean) 6 16 [rf b a0, iv x1] S 1 q := by
  have hcat : ∀ v ∈ ([rf b a0, iv x1] : List Value), v.category = 1 := (by intro v hv; simp only [List.mem_cons, List.not_mem_nil, or_false] at hv; rcases hv with rfl | rfl <;> first | exact cat_iv _ | exact cat_rf _ _)
  refine hp_ofJ (own := RX6) hst (by decide +kernel) rfl hcat (Nat.le_of_ble_eq_true rfl) ?_
  intro p e R s m args below meth c C hT hnm hr ls hl9
  have hl : hp_L ls 4 [(0, rf b a0), (1, iv x1)] := hp_L.of hl9 hcat
  unfold f_X6_isUsed at h
  refine j_iconst C dX6_isUsed_0 ?_
  refine k_istore_n (lv' := [(2, iv 0), (0, rf b a0), (1, iv x1)]) C dX6_isUsed_1 rfl hl (by decide) rfl (fun ls hl => ?_)
  exact w_X6_isUsed_2 C hT hnm hr FU _ _ _ _ hx1 (by decide) h ls (hl.sub [1, 2, 0] rfl)
noncomputable def f_X6_module_15 (a0 : Option Nat) (t0 : Int) (u1 : Option Nat) (S : AS) : Option RS :=
  (pI S u1 7 0 t0).bind fun S1 =>
  (gI S1 a0 7 0).bind fun v2 =>
  if v2 ≤ 0 then
    (gI S1 a0 7 1).bind fun v3 =>
    gd (isK S1 a0 7) <|
    cV (f_X6_begin a0 v3 S1) fun S4 =>
    (gI S4 a0 7 1).bind fun v7 =>
    (chk (v7 + 1)).bind fun z8 =>
    (pI S4 a0 7 1 z8).bind fun S9 =>
    (gI S9 a0 7 1).bind fun v10 =>
    (chk (v10 - 1)).bind fun z11 =>
    rI z11 S9
  else
    rI 0 S1
set_option maxHeartbeats 4000000 in
set_option maxRecDepth 100000 in
theorem w_X6_module_15 {p : Program} {l : Launch} {e : Env} {R : Room} {s : State} {m : MethodId} {args : Array Value} {below : List Frame} {meth : Method} {c : Code} {b : Nat} {D : va_G} {dA : Nat → ClassId} {S0 : AS} {q : RS} (C : hp_C p l e R s m args below meth c b D dA S0 RX6 cX6_module 1 7 38) (hT : ∀ x ∈ c.exceptionTable.toList, False) (hnm : meth.name = "module") (hr : meth.sig.returnType = (some .int)) : ∀ (a0 : Option Nat) (t0 : Int) (u1 : Option Nat) (S : AS), inR t0 → f_X6_module_15 a0 t0 u1 S = some q → ∀ ls : Array Slot, hp_L ls 1 [(0, rf b a0)] → hp_J p l e R s m args below meth c b D dA S0 (hp_Q below b D dA S0 1 q args s) S 15 ls [iv t0, rf b u1] := by
  have hst : l.stackTraces = false := C.2.2.2.2.2.2.2.2.2.2.1
  intro a0 t0 u1 S ht0 h ls hl
  unfold f_X6_module_15 at h
  obtain ⟨S1, g_S1, h⟩ := bd h
  refine j_pI C dX6_module_15 fl_RX6_85 (Or.inl rfl) rfl ht0 g_S1 ?_
  refine j_aload_n C dX6_module_18 rfl (hl.at 0 rfl) ?_
  obtain ⟨v2, g_v2, h⟩ := bd h
  refine j_gI C dX6_module_19 fl_RX6_85 (Or.inl rfl) g_v2 (fun hv2 => ?_)
  refine j_if_le (tgt := 27) C dX6_module_22 (by decide) hv2 (fun b1 => ?_) (fun b1 => ?_)
  · rw [if_pos b1] at h
    refine j_aload_n C dX6_module_27 rfl (hl.at 0 rfl) ?_
    refine j_aload_n C dX6_module_28 rfl (hl.at 0 rfl) ?_
    obtain ⟨v3, g_v3, h⟩ := bd h
    refine j_gI C dX6_module_29 fl_RX6_89 (Or.inl rfl) g_v3 (fun hv3 => ?_)
    obtain ⟨c6, h⟩ := gd_some h
    rcases cV_some h with ⟨S4, y5, hc, h⟩ | ⟨hc, hne⟩
    · refine j_callV C (run_W (As := [iv v3]) (rest := []) C (m_X6_begin hst hv3 hc) cv_RX6_92 (by decide) rfl c6 rfl hl (by decide) (by decide) (by decide) dX6_module_32) ?_
      refine j_aload_n C dX6_module_35 rfl (hl.at 0 rfl) ?_
      refine j_dup C dX6_module_36 (cat_rf _ _) ?_
      obtain ⟨v7, g_v7, h⟩ := bd h
      refine j_gI C dX6_module_37 fl_RX6_89 (Or.inl rfl) g_v7 (fun hv7 => ?_)
      refine j_iconst C dX6_module_40 ?_
      obtain ⟨z8, g_z8, h⟩ := bd h
      refine j_iadd C dX6_module_41 g_z8 (fun hz8 => ?_)
      obtain ⟨S9, g_S9, h⟩ := bd h
      refine j_pI C dX6_module_42 fl_RX6_89 (Or.inl rfl) rfl hz8 g_S9 ?_
      refine j_aload_n C dX6_module_45 rfl (hl.at 0 rfl) ?_
      obtain ⟨v10, g_v10, h⟩ := bd h
      refine j_gI C dX6_module_46 fl_RX6_89 (Or.inl rfl) g_v10 (fun hv10 => ?_)
      refine j_iconst C dX6_module_49 ?_
      obtain ⟨z11, g_z11, h⟩ := bd h
      refine j_isub C dX6_module_50 g_z11 (fun hz11 => ?_)
      exact j_iret C dX6_module_51 hr hz11 h
    · exact j_thrown C hT (run_W (As := [iv v3]) (rest := []) C (m_X6_begin hst hv3 hc) cv_RX6_92 (by decide) rfl c6 rfl hl (by decide) (by decide) (by decide) dX6_module_32) hne
  · rw [if_neg b1] at h
    refine j_iconst C dX6_module_25 ?_
    exact j_iret C dX6_module_26 hr (by decide) h
noncomputable def f_X6_module (a0 : Option Nat) (S : AS) : Option RS :=
  (gI S a0 7 1).bind fun v1 =>
  if v1 = 24 then
    f_X6_module_15 a0 1 a0 S
  else
    f_X6_module_15 a0 0 a0 S
set_option maxHeartbeats 4000000 in
set_option maxRecDepth 100000 in
theorem m_X6_module {l : Launch} {b : Nat} {D : va_G} {dA : Nat → ClassId} (hst : l.stackTraces = false) {a0 : Option Nat} {S : AS} {q : RS} (h : f_X6_module a0 S = some q) : hp_M l b D dA yX6_module cX6_module 1 (some .int) 7 38 [rf b a0] S 1 q := by
  have hcat : ∀ v ∈ ([rf b a0] : List Value), v.category = 1 := (by intro v hv; simp only [List.mem_cons, List.not_mem_nil, or_false] at hv; rcases hv with rfl <;> first | exact cat_iv _ | exact cat_rf _ _)
  refine hp_ofJ (own := RX6) hst (by decide +kernel) rfl hcat (Nat.le_of_ble_eq_true rfl) ?_
  intro p e R s m args below meth c C hT hnm hr ls hl9
  have hl : hp_L ls 1 [(0, rf b a0)] := hp_L.of hl9 hcat
  unfold f_X6_module at h
  refine j_aload_n C dX6_module_0 rfl (hl.at 0 rfl) ?_
  refine j_aload_n C dX6_module_1 rfl (hl.at 0 rfl) ?_
  obtain ⟨v1, g_v1, h⟩ := bd h
  refine j_gI C dX6_module_2 fl_RX6_89 (Or.inl rfl) g_v1 (fun hv1 => ?_)
  refine j_bipush (x := 24) C dX6_module_5 (by decide) ?_
  refine j_icmp_ne (tgt := 14) C dX6_module_7 (by decide) hv1 (by decide) (fun b1 => ?_) (fun b1 => ?_)
  · rw [if_neg b1] at h
    refine j_iconst C dX6_module_14 ?_
    exact w_X6_module_15 C hT hnm hr _ _ _ _ (by decide) h ls (hl.sub [0] rfl)
  · rw [if_pos (Decidable.byContradiction b1)] at h
    refine j_iconst C dX6_module_10 ?_
    refine j_goto (tgt := 15) C dX6_module_11 (by decide) ?_
    exact w_X6_module_15 C hT hnm hr _ _ _ _ (by decide) h ls (hl.sub [0] rfl)
noncomputable def f_X6_port_59 (a0 : Option Nat) (x1 : Int) (x2 : Int) (x3 : Int) (t0 : Int) (u1 : Option Nat) (S : AS) : Option RS :=
  (pI S u1 7 0 t0).bind fun S1 =>
  (gI S1 a0 7 0).bind fun v2 =>
  if v2 ≤ 0 then
    (gR S1 a0 7 3).bind fun o3 =>
    (chk (16 * x1)).bind fun z4 =>
    (gR S1 a0 7 2).bind fun o5 =>
    (aI S1 o5 8 x1).bind fun v6 =>
    (chk (z4 + v6)).bind fun z7 =>
    (sI S1 o3 8 z7 x2).bind fun S8 =>
    (gR S8 a0 7 4).bind fun o9 =>
    (chk (16 * x1)).bind fun z10 =>
    (gR S8 a0 7 2).bind fun o11 =>
    (aI S8 o11 8 x1).bind fun v12 =>
    (chk (z10 + v12)).bind fun z13 =>
    (sZ S8 o9 z13 x3).bind fun S14 =>
    (gR S14 a0 7 2).bind fun o15 =>
    (aI S14 o15 8 x1).bind fun v16 =>
    (chk (v16 + 1)).bind fun z17 =>
    (sI S14 o15 8 x1 z17).bind fun S18 =>
    (gR S18 a0 7 2).bind fun o19 =>
    (aI S18 o19 8 x1).bind fun v20 =>
    (chk (v20 - 1)).bind fun z21 =>
    rI z21 S18
  else
    rI 0 S1
set_option maxHeartbeats 4000000 in
set_option maxRecDepth 100000 in
theorem w_X6_port_59 {p : Program} {l : Launch} {e : Env} {R : Room} {s : State} {m : MethodId} {args : Array Value} {below : List Frame} {meth : Method} {c : Code} {b : Nat} {D : va_G} {dA : Nat → ClassId} {S0 : AS} {q : RS} (C : hp_C p l e R s m args below meth c b D dA S0 RX6 cX6_port 5 7 39) (hT : ∀ x ∈ c.exceptionTable.toList, False) (hnm : meth.name = "port") (hr : meth.sig.returnType = (some .int)) : ∀ (a0 : Option Nat) (x1 : Int) (x2 : Int) (x3 : Int) (t0 : Int) (u1 : Option Nat) (S : AS), inR x1 → inR x2 → inR x3 → inR t0 → f_X6_port_59 a0 x1 x2 x3 t0 u1 S = some q → ∀ ls : Array Slot, hp_L ls 5 [(0, rf b a0), (1, iv x1), (2, iv x2), (3, iv x3)] → hp_J p l e R s m args below meth c b D dA S0 (hp_Q below b D dA S0 1 q args s) S 59 ls [iv t0, rf b u1] := by
  have hst : l.stackTraces = false := C.2.2.2.2.2.2.2.2.2.2.1
  intro a0 x1 x2 x3 t0 u1 S hx1 hx2 hx3 ht0 h ls hl
  unfold f_X6_port_59 at h
  obtain ⟨S1, g_S1, h⟩ := bd h
  refine j_pI C dX6_port_59 fl_RX6_85 (Or.inl rfl) rfl ht0 g_S1 ?_
  refine j_aload_n C dX6_port_62 rfl (hl.at 0 rfl) ?_
  obtain ⟨v2, g_v2, h⟩ := bd h
  refine j_gI C dX6_port_63 fl_RX6_85 (Or.inl rfl) g_v2 (fun hv2 => ?_)
  refine j_if_le (tgt := 71) C dX6_port_66 (by decide) hv2 (fun b1 => ?_) (fun b1 => ?_)
  · rw [if_pos b1] at h
    refine j_aload_n C dX6_port_71 rfl (hl.at 0 rfl) ?_
    obtain ⟨o3, g_o3, h⟩ := bd h
    refine j_gR C dX6_port_72 fl_RX6_13 rfl g_o3 ?_
    refine j_bipush (x := 16) C dX6_port_75 (by decide) ?_
    refine j_iload_n C dX6_port_77 rfl (hl.at 1 rfl) ?_
    obtain ⟨z4, g_z4, h⟩ := bd h
    refine j_imul C dX6_port_78 g_z4 (fun hz4 => ?_)
    refine j_aload_n C dX6_port_79 rfl (hl.at 0 rfl) ?_
    obtain ⟨o5, g_o5, h⟩ := bd h
    refine j_gR C dX6_port_80 fl_RX6_7 rfl g_o5 ?_
    refine j_iload_n C dX6_port_83 rfl (hl.at 1 rfl) ?_
    obtain ⟨v6, g_v6, h⟩ := bd h
    refine j_iald C dX6_port_84 hx1 g_v6 (fun hv6 => ?_)
    obtain ⟨z7, g_z7, h⟩ := bd h
    refine j_iadd C dX6_port_85 g_z7 (fun hz7 => ?_)
    refine j_iload_n C dX6_port_86 rfl (hl.at 2 rfl) ?_
    obtain ⟨S8, g_S8, h⟩ := bd h
    refine j_iast C dX6_port_87 hz7 hx2 g_S8 ?_
    refine j_aload_n C dX6_port_88 rfl (hl.at 0 rfl) ?_
    obtain ⟨o9, g_o9, h⟩ := bd h
    refine j_gR C dX6_port_89 fl_RX6_16 rfl g_o9 ?_
    refine j_bipush (x := 16) C dX6_port_92 (by decide) ?_
    refine j_iload_n C dX6_port_94 rfl (hl.at 1 rfl) ?_
    obtain ⟨z10, g_z10, h⟩ := bd h
    refine j_imul C dX6_port_95 g_z10 (fun hz10 => ?_)
    refine j_aload_n C dX6_port_96 rfl (hl.at 0 rfl) ?_
    obtain ⟨o11, g_o11, h⟩ := bd h
    refine j_gR C dX6_port_97 fl_RX6_7 rfl g_o11 ?_
    refine j_iload_n C dX6_port_100 rfl (hl.at 1 rfl) ?_
    obtain ⟨v12, g_v12, h⟩ := bd h
    refine j_iald C dX6_port_101 hx1 g_v12 (fun hv12 => ?_)
    obtain ⟨z13, g_z13, h⟩ := bd h
    refine j_iadd C dX6_port_102 g_z13 (fun hz13 => ?_)
    refine j_iload_n C dX6_port_103 rfl (hl.at 3 rfl) ?_
    obtain ⟨S14, g_S14, h⟩ := bd h
    refine j_zast C dX6_port_104 hz13 g_S14 ?_
    refine j_aload_n C dX6_port_105 rfl (hl.at 0 rfl) ?_
    obtain ⟨o15, g_o15, h⟩ := bd h
    refine j_gR C dX6_port_106 fl_RX6_7 rfl g_o15 ?_
    refine j_iload_n C dX6_port_109 rfl (hl.at 1 rfl) ?_
    refine j_dup2 C dX6_port_110 (cat_iv _) (cat_rf _ _) ?_
    obtain ⟨v16, g_v16, h⟩ := bd h
    refine j_iald C dX6_port_111 hx1 g_v16 (fun hv16 => ?_)
    refine j_iconst C dX6_port_112 ?_
    obtain ⟨z17, g_z17, h⟩ := bd h
    refine j_iadd C dX6_port_113 g_z17 (fun hz17 => ?_)
    obtain ⟨S18, g_S18, h⟩ := bd h
    refine j_iast C dX6_port_114 hx1 hz17 g_S18 ?_
    refine j_aload_n C dX6_port_115 rfl (hl.at 0 rfl) ?_
    obtain ⟨o19, g_o19, h⟩ := bd h
    refine j_gR C dX6_port_116 fl_RX6_7 rfl g_o19 ?_
    refine j_iload_n C dX6_port_119 rfl (hl.at 1 rfl) ?_
    obtain ⟨v20, g_v20, h⟩ := bd h
    refine j_iald C dX6_port_120 hx1 g_v20 (fun hv20 => ?_)
    refine j_iconst C dX6_port_121 ?_
    obtain ⟨z21, g_z21, h⟩ := bd h
    refine j_isub C dX6_port_122 g_z21 (fun hz21 => ?_)
    exact j_iret C dX6_port_123 hr hz21 h
  · rw [if_neg b1] at h
    refine j_iconst C dX6_port_69 ?_
    exact j_iret C dX6_port_70 hr (by decide) h
noncomputable def f_X6_port_54 (a0 : Option Nat) (x1 : Int) (x2 : Int) (x3 : Int) (u0 : Option Nat) (S : AS) : Option RS :=
  f_X6_port_59 a0 x1 x2 x3 3 u0 S
set_option maxHeartbeats 4000000 in
set_option maxRecDepth 100000 in
theorem w_X6_port_54 {p : Program} {l : Launch} {e : Env} {R : Room} {s : State} {m : MethodId} {args : Array Value} {below : List Frame} {meth : Method} {c : Code} {b : Nat} {D : va_G} {dA : Nat → ClassId} {S0 : AS} {q : RS} (C : hp_C p l e R s m args below meth c b D dA S0 RX6 cX6_port 5 7 39) (hT : ∀ x ∈ c.exceptionTable.toList, False) (hnm : meth.name = "port") (hr : meth.sig.returnType = (some .int)) : ∀ (a0 : Option Nat) (x1 : Int) (x2 : Int) (x3 : Int) (u0 : Option Nat) (S : AS), inR x1 → inR x2 → inR x3 → f_X6_port_54 a0 x1 x2 x3 u0 S = some q → ∀ ls : Array Slot, hp_L ls 5 [(0, rf b a0), (1, iv x1), (2, iv x2), (3, iv x3)] → hp_J p l e R s m args below meth c b D dA S0 (hp_Q below b D dA S0 1 q args s) S 54 ls [rf b u0] := by
  have hst : l.stackTraces = false := C.2.2.2.2.2.2.2.2.2.2.1
  intro a0 x1 x2 x3 u0 S hx1 hx2 hx3 h ls hl
  unfold f_X6_port_54 at h
  refine j_iconst C dX6_port_54 ?_
  refine j_goto (tgt := 59) C dX6_port_55 (by decide) ?_
  exact w_X6_port_59 C hT hnm hr _ _ _ _ _ _ _ hx1 hx2 hx3 (by decide) h ls (hl.sub [0, 1, 2, 3] rfl)
noncomputable def f_X6_port_39 (a0 : Option Nat) (x1 : Int) (x2 : Int) (x3 : Int) (u0 : Option Nat) (S : AS) : Option RS :=
  f_X6_port_59 a0 x1 x2 x3 2 u0 S
set_option maxHeartbeats 4000000 in
set_option maxRecDepth 100000 in
theorem w_X6_port_39 {p : Program} {l : Launch} {e : Env} {R : Room} {s : State} {m : MethodId} {args : Array Value} {below : List Frame} {meth : Method} {c : Code} {b : Nat} {D : va_G} {dA : Nat → ClassId} {S0 : AS} {q : RS} (C : hp_C p l e R s m args below meth c b D dA S0 RX6 cX6_port 5 7 39) (hT : ∀ x ∈ c.exceptionTable.toList, False) (hnm : meth.name = "port") (hr : meth.sig.returnType = (some .int)) : ∀ (a0 : Option Nat) (x1 : Int) (x2 : Int) (x3 : Int) (u0 : Option Nat) (S : AS), inR x1 → inR x2 → inR x3 → f_X6_port_39 a0 x1 x2 x3 u0 S = some q → ∀ ls : Array Slot, hp_L ls 5 [(0, rf b a0), (1, iv x1), (2, iv x2), (3, iv x3)] → hp_J p l e R s m args below meth c b D dA S0 (hp_Q below b D dA S0 1 q args s) S 39 ls [rf b u0] := by
  have hst : l.stackTraces = false := C.2.2.2.2.2.2.2.2.2.2.1
  intro a0 x1 x2 x3 u0 S hx1 hx2 hx3 h ls hl
  unfold f_X6_port_39 at h
  refine j_iconst C dX6_port_39 ?_
  refine j_goto (tgt := 59) C dX6_port_40 (by decide) ?_
  exact w_X6_port_59 C hT hnm hr _ _ _ _ _ _ _ hx1 hx2 hx3 (by decide) h ls (hl.sub [0, 1, 2, 3] rfl)
noncomputable def f_X6_port (a0 : Option Nat) (x1 : Int) (x2 : Int) (x3 : Int) (S : AS) : Option RS :=
  (gI S a0 7 1).bind fun v1 =>
  cI (f_X6_isIn x1 v1 S) fun v3 S2 =>
  if v3 = 0 then
    f_X6_port_59 a0 x1 x2 x3 1 a0 S2
  else
    (gR S2 a0 7 2).bind fun o4 =>
    (aI S2 o4 8 x1).bind fun v5 =>
    if v5 = 16 then
      f_X6_port_39 a0 x1 x2 x3 a0 S2
    else
      gd (isK S2 a0 7) <|
      cI (f_X6_isUsed a0 x1 S2) fun v7 S6 =>
      if v7 = 0 then
        if x2 < 1 then
          f_X6_port_54 a0 x1 x2 x3 a0 S6
        else
          if x2 ≤ 8 then
            f_X6_port_59 a0 x1 x2 x3 0 a0 S6
          else
            f_X6_port_54 a0 x1 x2 x3 a0 S6
      else
        f_X6_port_39 a0 x1 x2 x3 a0 S6
set_option maxHeartbeats 4000000 in
set_option maxRecDepth 100000 in
theorem m_X6_port {l : Launch} {b : Nat} {D : va_G} {dA : Nat → ClassId} (hst : l.stackTraces = false) {a0 : Option Nat} {x1 : Int} {x2 : Int} {x3 : Int} {S : AS} {q : RS} (hx1 : inR x1) (hx2 : inR x2) (hx3 : inR x3) (h : f_X6_port a0 x1 x2 x3 S = some q) : hp_M l b D dA yX6_port cX6_port 5 (some .int) 7 39 [rf b a0, iv x1, iv x2, iv x3] S 1 q := by
  have hcat : ∀ v ∈ ([rf b a0, iv x1, iv x2, iv x3] : List Value), v.category = 1 := (by intro v hv; simp only [List.mem_cons, List.not_mem_nil, or_false] at hv; rcases hv with rfl | rfl | rfl | rfl <;> first | exact cat_iv _ | exact cat_rf _ _)
  refine hp_ofJ (own := RX6) hst (by decide +kernel) rfl hcat (Nat.le_of_ble_eq_true rfl) ?_
  intro p e R s m args below meth c C hT hnm hr ls hl9
  have hl : hp_L ls 5 [(0, rf b a0), (1, iv x1), (2, iv x2), (3, iv x3)] := hp_L.of hl9 hcat
  unfold f_X6_port at h
  refine j_iload_n C dX6_port_0 rfl (hl.at 1 rfl) ?_
  refine j_aload_n C dX6_port_1 rfl (hl.at 0 rfl) ?_
  obtain ⟨v1, g_v1, h⟩ := bd h
  refine j_gI C dX6_port_2 fl_RX6_89 (Or.inl rfl) g_v1 (fun hv1 => ?_)
  rcases cI_some h with ⟨S2, v3, wv3, hc, h⟩ | ⟨hc, hne⟩
  · refine j_callI C (run_S (As := [iv x1, iv v1]) (rest := []) C (m_X6_isIn hst hx1 hv1 hc) cs_RX6_99 rfl hl.1.1 (by decide) (by decide) (by decide) dX6_port_5) (fun hv3 => ?_)
    refine k_istore (lv' := [(4, iv v3), (0, rf b a0), (1, iv x1), (2, iv x2), (3, iv x3)]) C dX6_port_8 hl (by decide) rfl (fun ls hl => ?_)
    refine j_aload_n C dX6_port_10 rfl (hl.at 1 rfl) ?_
    refine j_iload C dX6_port_11 (hl.at 0 rfl) ?_
    refine j_if_ne (tgt := 20) C dX6_port_13 (by decide) hv3 (fun b1 => ?_) (fun b1 => ?_)
    · rw [if_neg b1] at h
      refine j_aload_n C dX6_port_20 rfl (hl.at 1 rfl) ?_
      obtain ⟨o4, g_o4, h⟩ := bd h
      refine j_gR C dX6_port_21 fl_RX6_7 rfl g_o4 ?_
      refine j_iload_n C dX6_port_24 rfl (hl.at 2 rfl) ?_
      obtain ⟨v5, g_v5, h⟩ := bd h
      refine j_iald C dX6_port_25 hx1 g_v5 (fun hv5 => ?_)
      refine j_bipush (x := 16) C dX6_port_26 (by decide) ?_
      refine j_icmp_eq (tgt := 39) C dX6_port_28 (by decide) hv5 (by decide) (fun b1 => ?_) (fun b1 => ?_)
      · rw [if_pos b1] at h
        exact w_X6_port_39 C hT hnm hr _ _ _ _ _ _ hx1 hx2 hx3 h ls (hl.sub [1, 2, 3, 4] rfl)
      · rw [if_neg b1] at h
        refine j_aload_n C dX6_port_31 rfl (hl.at 1 rfl) ?_
        refine j_iload_n C dX6_port_32 rfl (hl.at 2 rfl) ?_
        obtain ⟨c8, h⟩ := gd_some h
        rcases cI_some h with ⟨S6, v7, wv7, hc, h⟩ | ⟨hc, hne⟩
        · refine j_callI C (run_W (As := [iv x1]) (rest := [rf b a0]) C (m_X6_isUsed hst hx1 hc) cv_RX6_103 (by decide) rfl c8 rfl hl (by simp [cat_iv, cat_rf]) (by decide) (by decide) dX6_port_33) (fun hv7 => ?_)
          refine j_if_eq (tgt := 43) C dX6_port_36 (by decide) hv7 (fun b1 => ?_) (fun b1 => ?_)
          · rw [if_pos b1] at h
            refine j_iload_n C dX6_port_43 rfl (hl.at 3 rfl) ?_
            refine j_iconst C dX6_port_44 ?_
            refine j_icmp_lt (tgt := 54) C dX6_port_45 (by decide) hx2 (by decide) (fun b1 => ?_) (fun b1 => ?_)
            · rw [if_pos b1] at h
              exact w_X6_port_54 C hT hnm hr _ _ _ _ _ _ hx1 hx2 hx3 h ls (hl.sub [1, 2, 3, 4] rfl)
            · rw [if_neg b1] at h
              refine j_iload_n C dX6_port_48 rfl (hl.at 3 rfl) ?_
              refine j_bipush (x := 8) C dX6_port_49 (by decide) ?_
              refine j_icmp_le (tgt := 58) C dX6_port_51 (by decide) hx2 (by decide) (fun b1 => ?_) (fun b1 => ?_)
              · rw [if_pos b1] at h
                refine j_iconst C dX6_port_58 ?_
                exact w_X6_port_59 C hT hnm hr _ _ _ _ _ _ _ hx1 hx2 hx3 (by decide) h ls (hl.sub [1, 2, 3, 4] rfl)
              · rw [if_neg b1] at h
                exact w_X6_port_54 C hT hnm hr _ _ _ _ _ _ hx1 hx2 hx3 h ls (hl.sub [1, 2, 3, 4] rfl)
          · rw [if_neg b1] at h
            exact w_X6_port_39 C hT hnm hr _ _ _ _ _ _ hx1 hx2 hx3 h ls (hl.sub [1, 2, 3, 4] rfl)
        · exact j_thrown C hT (run_W (As := [iv x1]) (rest := [rf b a0]) C (m_X6_isUsed hst hx1 hc) cv_RX6_103 (by decide) rfl c8 rfl hl (by simp [cat_iv, cat_rf]) (by decide) (by decide) dX6_port_33) hne
    · rw [if_pos (Decidable.byContradiction b1)] at h
      refine j_iconst C dX6_port_16 ?_
      refine j_goto (tgt := 59) C dX6_port_17 (by decide) ?_
      exact w_X6_port_59 C hT hnm hr _ _ _ _ _ _ _ hx1 hx2 hx3 (by decide) h ls (hl.sub [1, 2, 3, 4] rfl)
  · exact j_thrown C hT (run_S (As := [iv x1, iv v1]) (rest := []) C (m_X6_isIn hst hx1 hv1 hc) cs_RX6_99 rfl hl.1.1 (by decide) (by decide) (by decide) dX6_port_5) hne
noncomputable def f_X6_ownPins_4 (n : Nat) (a0 : Option Nat) (x1 : Int) (x2 : Int) (x3 : Int) (S : AS) : Option RS := match n with
  | 0 => none
  | n + 1 =>
    (gR S a0 7 2).bind fun o1 =>
    (aI S o1 8 x1).bind fun v2 =>
    if v2 ≤ x3 then
      rI x2 S
    else
      (gR S a0 7 3).bind fun o3 =>
      (chk (16 * x1)).bind fun z4 =>
      (chk (z4 + x3)).bind fun z5 =>
      (aI S o3 8 z5).bind fun v6 =>
      (chk (x2 + v6)).bind fun z7 =>
      (chk (x3 + 1)).bind fun z8 =>
      f_X6_ownPins_4 n a0 x1 z7 z8 S
set_option maxHeartbeats 4000000 in
set_option maxRecDepth 100000 in
theorem w_X6_ownPins_4 {p : Program} {l : Launch} {e : Env} {R : Room} {s : State} {m : MethodId} {args : Array Value} {below : List Frame} {meth : Method} {c : Code} {b : Nat} {D : va_G} {dA : Nat → ClassId} {S0 : AS} {q : RS} (C : hp_C p l e R s m args below meth c b D dA S0 RX6 cX6_ownPins 4 6 16) (hT : ∀ x ∈ c.exceptionTable.toList, False) (hnm : meth.name = "ownPins") (hr : meth.sig.returnType = (some .int)) : ∀ (n : Nat), ∀ (a0 : Option Nat) (x1 : Int) (x2 : Int) (x3 : Int) (S : AS), inR x1 → inR x2 → inR x3 → f_X6_ownPins_4 n a0 x1 x2 x3 S = some q → ∀ ls : Array Slot, hp_L ls 4 [(0, rf b a0), (1, iv x1), (2, iv x2), (3, iv x3)] → hp_J p l e R s m args below meth c b D dA S0 (hp_Q below b D dA S0 1 q args s) S 4 ls [] := by
  have hst : l.stackTraces = false := C.2.2.2.2.2.2.2.2.2.2.1
  intro n
  induction n with
  | zero =>
    intro a0 x1 x2 x3 S hx1 hx2 hx3 h
    cases h
  | succ n ih =>
    intro a0 x1 x2 x3 S hx1 hx2 hx3 h ls hl
    unfold f_X6_ownPins_4 at h
    refine j_iload_n C dX6_ownPins_4 rfl (hl.at 3 rfl) ?_
    refine j_aload_n C dX6_ownPins_5 rfl (hl.at 0 rfl) ?_
    obtain ⟨o1, g_o1, h⟩ := bd h
    refine j_gR C dX6_ownPins_6 fl_RX6_7 rfl g_o1 ?_
    refine j_iload_n C dX6_ownPins_9 rfl (hl.at 1 rfl) ?_
    obtain ⟨v2, g_v2, h⟩ := bd h
    refine j_iald C dX6_ownPins_10 hx1 g_v2 (fun hv2 => ?_)
    refine j_icmp_ge (tgt := 34) C dX6_ownPins_11 (by decide) hx3 hv2 (fun b1 => ?_) (fun b1 => ?_)
    · rw [if_pos b1] at h
      refine j_iload_n C dX6_ownPins_34 rfl (hl.at 2 rfl) ?_
      exact j_iret C dX6_ownPins_35 hr hx2 h
    · rw [if_neg b1] at h
      refine j_iload_n C dX6_ownPins_14 rfl (hl.at 2 rfl) ?_
      refine j_aload_n C dX6_ownPins_15 rfl (hl.at 0 rfl) ?_
      obtain ⟨o3, g_o3, h⟩ := bd h
      refine j_gR C dX6_ownPins_16 fl_RX6_13 rfl g_o3 ?_
      refine j_bipush (x := 16) C dX6_ownPins_19 (by decide) ?_
      refine j_iload_n C dX6_ownPins_21 rfl (hl.at 1 rfl) ?_
      obtain ⟨z4, g_z4, h⟩ := bd h
      refine j_imul C dX6_ownPins_22 g_z4 (fun hz4 => ?_)
      refine j_iload_n C dX6_ownPins_23 rfl (hl.at 3 rfl) ?_
      obtain ⟨z5, g_z5, h⟩ := bd h
      refine j_iadd C dX6_ownPins_24 g_z5 (fun hz5 => ?_)
      obtain ⟨v6, g_v6, h⟩ := bd h
      refine j_iald C dX6_ownPins_25 hz5 g_v6 (fun hv6 => ?_)
      obtain ⟨z7, g_z7, h⟩ := bd h
      refine j_iadd C dX6_ownPins_26 g_z7 (fun hz7 => ?_)
      refine k_istore_n (lv' := [(2, iv z7), (0, rf b a0), (1, iv x1), (3, iv x3)]) C dX6_ownPins_27 rfl hl (by decide) rfl (fun ls hl => ?_)
      obtain ⟨z8, g_z8, h⟩ := bd h
      refine k_iinc (k9 := 3) (lv' := [(3, iv z8), (2, iv z7), (0, rf b a0), (1, iv x1)]) C dX6_ownPins_28 hl rfl g_z8 (by decide) rfl (fun hz8 ls hl => ?_)
      refine j_goto (tgt := 4) C dX6_ownPins_31 (by decide) ?_
      exact ih _ _ _ _ _ hx1 hz7 hz8 h ls (hl.sub [2, 3, 1, 0] rfl)
noncomputable def f_X6_ownPins (a0 : Option Nat) (x1 : Int) (S : AS) : Option RS :=
  f_X6_ownPins_4 FU a0 x1 0 0 S
set_option maxHeartbeats 4000000 in
set_option maxRecDepth 100000 in
theorem m_X6_ownPins {l : Launch} {b : Nat} {D : va_G} {dA : Nat → ClassId} (hst : l.stackTraces = false) {a0 : Option Nat} {x1 : Int} {S : AS} {q : RS} (hx1 : inR x1) (h : f_X6_ownPins a0 x1 S = some q) : hp_M l b D dA yX6_ownPins cX6_ownPins 4 (some .int) 6 16 [rf b a0, iv x1] S 1 q := by
  have hcat : ∀ v ∈ ([rf b a0, iv x1] : List Value), v.category = 1 := (by intro v hv; simp only [List.mem_cons, List.not_mem_nil, or_false] at hv; rcases hv with rfl | rfl <;> first | exact cat_iv _ | exact cat_rf _ _)
  refine hp_ofJ (own := RX6) hst (by decide +kernel) rfl hcat (Nat.le_of_ble_eq_true rfl) ?_
  intro p e R s m args below meth c C hT hnm hr ls hl9
  have hl : hp_L ls 4 [(0, rf b a0), (1, iv x1)] := hp_L.of hl9 hcat
  unfold f_X6_ownPins at h
  refine j_iconst C dX6_ownPins_0 ?_
  refine k_istore_n (lv' := [(2, iv 0), (0, rf b a0), (1, iv x1)]) C dX6_ownPins_1 rfl hl (by decide) rfl (fun ls hl => ?_)
  refine j_iconst C dX6_ownPins_2 ?_
  refine k_istore_n (lv' := [(3, iv 0), (2, iv 0), (0, rf b a0), (1, iv x1)]) C dX6_ownPins_3 rfl hl (by decide) rfl (fun ls hl => ?_)
  exact w_X6_ownPins_4 C hT hnm hr FU _ _ _ _ _ hx1 (by decide) (by decide) h ls (hl.sub [2, 3, 1, 0] rfl)
noncomputable def f_X6_isOut_5 (n : Nat) (a0 : Option Nat) (x1 : Int) (x3 : Int) (x4 : Int) (S : AS) : Option RS := match n with
  | 0 => none
  | n + 1 =>
    (gR S a0 7 3).bind fun o1 =>
    (chk (16 * x1)).bind fun z2 =>
    (chk (z2 + x4)).bind fun z3 =>
    (aI S o1 8 z3).bind fun v4 =>
    if x3 < v4 then
      (gR S a0 7 4).bind fun o5 =>
      (chk (16 * x1)).bind fun z6 =>
      (chk (z6 + x4)).bind fun z7 =>
      (aI S o5 9 z7).bind fun v8 =>
      rZ v8 S
    else
      (gR S a0 7 3).bind fun o9 =>
      (chk (16 * x1)).bind fun z10 =>
      (chk (z10 + x4)).bind fun z11 =>
      (aI S o9 8 z11).bind fun v12 =>
      (chk (x3 - v12)).bind fun z13 =>
      (chk (x4 + 1)).bind fun z14 =>
      f_X6_isOut_5 n a0 x1 z13 z14 S
set_option maxHeartbeats 4000000 in
set_option maxRecDepth 100000 in
theorem w_X6_isOut_5 {p : Program} {l : Launch} {e : Env} {R : Room} {s : State} {m : MethodId} {args : Array Value} {below : List Frame} {meth : Method} {c : Code} {b : Nat} {D : va_G} {dA : Nat → ClassId} {S0 : AS} {q : RS} (C : hp_C p l e R s m args below meth c b D dA S0 RX6 cX6_isOut 5 6 16) (hT : ∀ x ∈ c.exceptionTable.toList, False) (hnm : meth.name = "isOut") (hr : meth.sig.returnType = (some .boolean)) : ∀ (n : Nat), ∀ (a0 : Option Nat) (x1 : Int) (x3 : Int) (x4 : Int) (S : AS), inR x1 → inR x3 → inR x4 → f_X6_isOut_5 n a0 x1 x3 x4 S = some q → ∀ ls : Array Slot, hp_L ls 5 [(0, rf b a0), (1, iv x1), (3, iv x3), (4, iv x4)] → hp_J p l e R s m args below meth c b D dA S0 (hp_Q below b D dA S0 1 q args s) S 5 ls [] := by
  have hst : l.stackTraces = false := C.2.2.2.2.2.2.2.2.2.2.1
  intro n
  induction n with
  | zero =>
    intro a0 x1 x3 x4 S hx1 hx3 hx4 h
    cases h
  | succ n ih =>
    intro a0 x1 x3 x4 S hx1 hx3 hx4 h ls hl
    unfold f_X6_isOut_5 at h
    refine j_iload_n C dX6_isOut_5 rfl (hl.at 2 rfl) ?_
    refine j_aload_n C dX6_isOut_6 rfl (hl.at 0 rfl) ?_
    obtain ⟨o1, g_o1, h⟩ := bd h
    refine j_gR C dX6_isOut_7 fl_RX6_13 rfl g_o1 ?_
    refine j_bipush (x := 16) C dX6_isOut_10 (by decide) ?_
    refine j_iload_n C dX6_isOut_12 rfl (hl.at 1 rfl) ?_
    obtain ⟨z2, g_z2, h⟩ := bd h
    refine j_imul C dX6_isOut_13 g_z2 (fun hz2 => ?_)
    refine j_iload C dX6_isOut_14 (hl.at 3 rfl) ?_
    obtain ⟨z3, g_z3, h⟩ := bd h
    refine j_iadd C dX6_isOut_16 g_z3 (fun hz3 => ?_)
    obtain ⟨v4, g_v4, h⟩ := bd h
    refine j_iald C dX6_isOut_17 hz3 g_v4 (fun hv4 => ?_)
    refine j_icmp_lt (tgt := 42) C dX6_isOut_18 (by decide) hx3 hv4 (fun b1 => ?_) (fun b1 => ?_)
    · rw [if_pos b1] at h
      refine j_aload_n C dX6_isOut_42 rfl (hl.at 0 rfl) ?_
      obtain ⟨o5, g_o5, h⟩ := bd h
      refine j_gR C dX6_isOut_43 fl_RX6_16 rfl g_o5 ?_
      refine j_bipush (x := 16) C dX6_isOut_46 (by decide) ?_
      refine j_iload_n C dX6_isOut_48 rfl (hl.at 1 rfl) ?_
      obtain ⟨z6, g_z6, h⟩ := bd h
      refine j_imul C dX6_isOut_49 g_z6 (fun hz6 => ?_)
      refine j_iload C dX6_isOut_50 (hl.at 3 rfl) ?_
      obtain ⟨z7, g_z7, h⟩ := bd h
      refine j_iadd C dX6_isOut_52 g_z7 (fun hz7 => ?_)
      obtain ⟨v8, g_v8, h⟩ := bd h
      refine j_zald C dX6_isOut_53 hz7 g_v8 (fun hv8 => ?_)
      exact j_zret C dX6_isOut_54 hr h
    · rw [if_neg b1] at h
      refine j_iload_n C dX6_isOut_21 rfl (hl.at 2 rfl) ?_
      refine j_aload_n C dX6_isOut_22 rfl (hl.at 0 rfl) ?_
      obtain ⟨o9, g_o9, h⟩ := bd h
      refine j_gR C dX6_isOut_23 fl_RX6_13 rfl g_o9 ?_
      refine j_bipush (x := 16) C dX6_isOut_26 (by decide) ?_
      refine j_iload_n C dX6_isOut_28 rfl (hl.at 1 rfl) ?_
      obtain ⟨z10, g_z10, h⟩ := bd h
      refine j_imul C dX6_isOut_29 g_z10 (fun hz10 => ?_)
      refine j_iload C dX6_isOut_30 (hl.at 3 rfl) ?_
      obtain ⟨z11, g_z11, h⟩ := bd h
      refine j_iadd C dX6_isOut_32 g_z11 (fun hz11 => ?_)
      obtain ⟨v12, g_v12, h⟩ := bd h
      refine j_iald C dX6_isOut_33 hz11 g_v12 (fun hv12 => ?_)
      obtain ⟨z13, g_z13, h⟩ := bd h
      refine j_isub C dX6_isOut_34 g_z13 (fun hz13 => ?_)
      refine k_istore_n (lv' := [(3, iv z13), (0, rf b a0), (1, iv x1), (4, iv x4)]) C dX6_isOut_35 rfl hl (by decide) rfl (fun ls hl => ?_)
      obtain ⟨z14, g_z14, h⟩ := bd h
      refine k_iinc (k9 := 3) (lv' := [(4, iv z14), (3, iv z13), (0, rf b a0), (1, iv x1)]) C dX6_isOut_36 hl rfl g_z14 (by decide) rfl (fun hz14 ls hl => ?_)
      refine j_goto (tgt := 5) C dX6_isOut_39 (by decide) ?_
      exact ih _ _ _ _ _ hx1 hz13 hz14 h ls (hl.sub [2, 3, 1, 0] rfl)
noncomputable def f_X6_isOut (a0 : Option Nat) (x1 : Int) (x2 : Int) (S : AS) : Option RS :=
  f_X6_isOut_5 FU a0 x1 x2 0 S
set_option maxHeartbeats 4000000 in
set_option maxRecDepth 100000 in
theorem m_X6_isOut {l : Launch} {b : Nat} {D : va_G} {dA : Nat → ClassId} (hst : l.stackTraces = false) {a0 : Option Nat} {x1 : Int} {x2 : Int} {S : AS} {q : RS} (hx1 : inR x1) (hx2 : inR x2) (h : f_X6_isOut a0 x1 x2 S = some q) : hp_M l b D dA yX6_isOut cX6_isOut 5 (some .boolean) 6 16 [rf b a0, iv x1, iv x2] S 1 q := by
  have hcat : ∀ v ∈ ([rf b a0, iv x1, iv x2] : List Value), v.category = 1 := (by intro v hv; simp only [List.mem_cons, List.not_mem_nil, or_false] at hv; rcases hv with rfl | rfl | rfl <;> first | exact cat_iv _ | exact cat_rf _ _)
  refine hp_ofJ (own := RX6) hst (by decide +kernel) rfl hcat (Nat.le_of_ble_eq_true rfl) ?_
  intro p e R s m args below meth c C hT hnm hr ls hl9
  have hl : hp_L ls 5 [(0, rf b a0), (1, iv x1), (2, iv x2)] := hp_L.of hl9 hcat
  unfold f_X6_isOut at h
  refine j_iload_n C dX6_isOut_0 rfl (hl.at 2 rfl) ?_
  refine k_istore_n (lv' := [(3, iv x2), (0, rf b a0), (1, iv x1), (2, iv x2)]) C dX6_isOut_1 rfl hl (by decide) rfl (fun ls hl => ?_)
  refine j_iconst C dX6_isOut_2 ?_
  refine k_istore (lv' := [(4, iv 0), (3, iv x2), (0, rf b a0), (1, iv x1), (2, iv x2)]) C dX6_isOut_3 hl (by decide) rfl (fun ls hl => ?_)
  exact w_X6_isOut_5 C hT hnm hr FU _ _ _ _ _ hx1 hx2 (by decide) h ls (hl.sub [2, 3, 1, 0] rfl)
noncomputable def f_X6_isWithin_112 (k34 : Option Nat → Int → Int → AS → Option RS) (k43 : Option Nat → Int → Int → Int → AS → Option RS) (k55 : Option Nat → Int → Int → Int → Int → AS → Option RS) (a0 : Option Nat) (x1 : Int) (x4 : Int) (x5 : Int) (x6 : Int) (t0 : Int) (S : AS) : Option RS :=
  (gR S a0 7 26).bind fun o1 =>
  (sI S o1 8 x6 1).bind fun S2 =>
  (chk (x5 + 1)).bind fun z3 =>
  k55 a0 x1 t0 x4 z3 S2
set_option maxHeartbeats 4000000 in
set_option maxRecDepth 100000 in
theorem w_X6_isWithin_112 {p : Program} {l : Launch} {e : Env} {R : Room} {s : State} {m : MethodId} {args : Array Value} {below : List Frame} {meth : Method} {c : Code} {b : Nat} {D : va_G} {dA : Nat → ClassId} {S0 : AS} {q : RS} (C : hp_C p l e R s m args below meth c b D dA S0 RX6 cX6_isWithin 7 6 16) (hT : ∀ x ∈ c.exceptionTable.toList, False) (hnm : meth.name = "isWithin") (hr : meth.sig.returnType = (some .boolean)) {k34 : Option Nat → Int → Int → AS → Option RS} (hk34 : ∀ (a0 : Option Nat) (x1 : Int) (x3 : Int) (S : AS), inR x1 → inR x3 → k34 a0 x1 x3 S = some q → ∀ ls : Array Slot, hp_L ls 7 [(0, rf b a0), (1, iv x1), (3, iv x3)] → hp_J p l e R s m args below meth c b D dA S0 (hp_Q below b D dA S0 1 q args s) S 34 ls []) {k43 : Option Nat → Int → Int → Int → AS → Option RS} (hk43 : ∀ (a0 : Option Nat) (x1 : Int) (x3 : Int) (x4 : Int) (S : AS), inR x1 → inR x3 → inR x4 → k43 a0 x1 x3 x4 S = some q → ∀ ls : Array Slot, hp_L ls 7 [(0, rf b a0), (1, iv x1), (3, iv x3), (4, iv x4)] → hp_J p l e R s m args below meth c b D dA S0 (hp_Q below b D dA S0 1 q args s) S 43 ls []) {k55 : Option Nat → Int → Int → Int → Int → AS → Option RS} (hk55 : ∀ (a0 : Option Nat) (x1 : Int) (x3 : Int) (x4 : Int) (x5 : Int) (S : AS), inR x1 → inR x3 → inR x4 → inR x5 → k55 a0 x1 x3 x4 x5 S = some q → ∀ ls : Array Slot, hp_L ls 7 [(0, rf b a0), (1, iv x1), (3, iv x3), (4, iv x4), (5, iv x5)] → hp_J p l e R s m args below meth c b D dA S0 (hp_Q below b D dA S0 1 q args s) S 55 ls []) : ∀ (a0 : Option Nat) (x1 : Int) (x4 : Int) (x5 : Int) (x6 : Int) (t0 : Int) (S : AS), inR x1 → inR x4 → inR x5 → inR x6 → inR t0 → f_X6_isWithin_112 k34 k43 k55 a0 x1 x4 x5 x6 t0 S = some q → ∀ ls : Array Slot, hp_L ls 7 [(0, rf b a0), (1, iv x1), (4, iv x4), (5, iv x5), (6, iv x6)] → hp_J p l e R s m args below meth c b D dA S0 (hp_Q below b D dA S0 1 q args s) S 112 ls [iv t0] := by
  have hst : l.stackTraces = false := C.2.2.2.2.2.2.2.2.2.2.1
  intro a0 x1 x4 x5 x6 t0 S hx1 hx4 hx5 hx6 ht0 h ls hl
  unfold f_X6_isWithin_112 at h
  refine k_istore_n (lv' := [(3, iv t0), (0, rf b a0), (1, iv x1), (4, iv x4), (5, iv x5), (6, iv x6)]) C dX6_isWithin_112 rfl hl (by decide) rfl (fun ls hl => ?_)
  refine j_aload_n C dX6_isWithin_113 rfl (hl.at 1 rfl) ?_
  obtain ⟨o1, g_o1, h⟩ := bd h
  refine j_gR C dX6_isWithin_114 fl_RX6_76 rfl g_o1 ?_
  refine j_iload C dX6_isWithin_117 (hl.at 5 rfl) ?_
  refine j_iconst C dX6_isWithin_119 ?_
  obtain ⟨S2, g_S2, h⟩ := bd h
  refine j_iast C dX6_isWithin_120 hx6 (by decide) g_S2 ?_
  obtain ⟨z3, g_z3, h⟩ := bd h
  refine k_iinc (k9 := 4) (lv' := [(5, iv z3), (3, iv t0), (0, rf b a0), (1, iv x1), (4, iv x4), (6, iv x6)]) C dX6_isWithin_121 hl rfl g_z3 (by decide) rfl (fun hz3 ls hl => ?_)
  refine j_goto (tgt := 55) C dX6_isWithin_124 (by decide) ?_
  exact hk55 _ _ _ _ _ _ hx1 ht0 hx4 hz3 h ls (hl.sub [2, 3, 1, 4, 0] rfl)
noncomputable def f_X6_isWithin_107 (k34 : Option Nat → Int → Int → AS → Option RS) (k43 : Option Nat → Int → Int → Int → AS → Option RS) (k55 : Option Nat → Int → Int → Int → Int → AS → Option RS) (a0 : Option Nat) (x1 : Int) (x4 : Int) (x5 : Int) (x6 : Int) (S : AS) : Option RS :=
  f_X6_isWithin_112 k34 k43 k55 a0 x1 x4 x5 x6 1 S
set_option maxHeartbeats 4000000 in
set_option maxRecDepth 100000 in
theorem w_X6_isWithin_107 {p : Program} {l : Launch} {e : Env} {R : Room} {s : State} {m : MethodId} {args : Array Value} {below : List Frame} {meth : Method} {c : Code} {b : Nat} {D : va_G} {dA : Nat → ClassId} {S0 : AS} {q : RS} (C : hp_C p l e R s m args below meth c b D dA S0 RX6 cX6_isWithin 7 6 16) (hT : ∀ x ∈ c.exceptionTable.toList, False) (hnm : meth.name = "isWithin") (hr : meth.sig.returnType = (some .boolean)) {k34 : Option Nat → Int → Int → AS → Option RS} (hk34 : ∀ (a0 : Option Nat) (x1 : Int) (x3 : Int) (S : AS), inR x1 → inR x3 → k34 a0 x1 x3 S = some q → ∀ ls : Array Slot, hp_L ls 7 [(0, rf b a0), (1, iv x1), (3, iv x3)] → hp_J p l e R s m args below meth c b D dA S0 (hp_Q below b D dA S0 1 q args s) S 34 ls []) {k43 : Option Nat → Int → Int → Int → AS → Option RS} (hk43 : ∀ (a0 : Option Nat) (x1 : Int) (x3 : Int) (x4 : Int) (S : AS), inR x1 → inR x3 → inR x4 → k43 a0 x1 x3 x4 S = some q → ∀ ls : Array Slot, hp_L ls 7 [(0, rf b a0), (1, iv x1), (3, iv x3), (4, iv x4)] → hp_J p l e R s m args below meth c b D dA S0 (hp_Q below b D dA S0 1 q args s) S 43 ls []) {k55 : Option Nat → Int → Int → Int → Int → AS → Option RS} (hk55 : ∀ (a0 : Option Nat) (x1 : Int) (x3 : Int) (x4 : Int) (x5 : Int) (S : AS), inR x1 → inR x3 → inR x4 → inR x5 → k55 a0 x1 x3 x4 x5 S = some q → ∀ ls : Array Slot, hp_L ls 7 [(0, rf b a0), (1, iv x1), (3, iv x3), (4, iv x4), (5, iv x5)] → hp_J p l e R s m args below meth c b D dA S0 (hp_Q below b D dA S0 1 q args s) S 55 ls []) : ∀ (a0 : Option Nat) (x1 : Int) (x4 : Int) (x5 : Int) (x6 : Int) (S : AS), inR x1 → inR x4 → inR x5 → inR x6 → f_X6_isWithin_107 k34 k43 k55 a0 x1 x4 x5 x6 S = some q → ∀ ls : Array Slot, hp_L ls 7 [(0, rf b a0), (1, iv x1), (4, iv x4), (5, iv x5), (6, iv x6)] → hp_J p l e R s m args below meth c b D dA S0 (hp_Q below b D dA S0 1 q args s) S 107 ls [] := by
  have hst : l.stackTraces = false := C.2.2.2.2.2.2.2.2.2.2.1
  intro a0 x1 x4 x5 x6 S hx1 hx4 hx5 hx6 h ls hl
  unfold f_X6_isWithin_107 at h
  refine j_iconst C dX6_isWithin_107 ?_
  refine j_goto (tgt := 112) C dX6_isWithin_108 (by decide) ?_
  exact w_X6_isWithin_112 C hT hnm hr hk34 hk43 hk55 _ _ _ _ _ _ _ hx1 hx4 hx5 hx6 (by decide) h ls (hl.sub [0, 1, 2, 3, 4] rfl)
noncomputable def f_X6_isWithin_55 (n : Nat) (k34 : Option Nat → Int → Int → AS → Option RS) (k43 : Option Nat → Int → Int → Int → AS → Option RS) (a0 : Option Nat) (x1 : Int) (x3 : Int) (x4 : Int) (x5 : Int) (S : AS) : Option RS := match n with
  | 0 => none
  | n + 1 =>
    (gR S a0 7 5).bind fun o1 =>
    (aI S o1 8 x4).bind fun v2 =>
    if v2 ≤ x5 then
      (chk (x4 + 1)).bind fun z3 =>
      k43 a0 x1 x3 z3 S
    else
      (gR S a0 7 26).bind fun o4 =>
      (aI S o4 8 x4).bind fun v5 =>
      if v5 = 1 then
        (gR S a0 7 6).bind fun o7 =>
        (chk (64 * x4)).bind fun z8 =>
        (chk (z8 + x5)).bind fun z9 =>
        (aI S o7 8 z9).bind fun v10 =>
        if x3 = 0 then
          (gR S a0 7 26).bind fun o11 =>
          (aI S o11 8 v10).bind fun v12 =>
          if v12 = 0 then
            f_X6_isWithin_107 k34 k43 (f_X6_isWithin_55 n k34 k43) a0 x1 x4 x5 v10 S
          else
            f_X6_isWithin_112 k34 k43 (f_X6_isWithin_55 n k34 k43) a0 x1 x4 x5 v10 0 S
        else
          f_X6_isWithin_107 k34 k43 (f_X6_isWithin_55 n k34 k43) a0 x1 x4 x5 v10 S
      else
        (chk (x4 + 1)).bind fun z6 =>
        k43 a0 x1 x3 z6 S
set_option maxHeartbeats 4000000 in
set_option maxRecDepth 100000 in
theorem w_X6_isWithin_55 {p : Program} {l : Launch} {e : Env} {R : Room} {s : State} {m : MethodId} {args : Array Value} {below : List Frame} {meth : Method} {c : Code} {b : Nat} {D : va_G} {dA : Nat → ClassId} {S0 : AS} {q : RS} (C : hp_C p l e R s m args below meth c b D dA S0 RX6 cX6_isWithin 7 6 16) (hT : ∀ x ∈ c.exceptionTable.toList, False) (hnm : meth.name = "isWithin") (hr : meth.sig.returnType = (some .boolean)) {k34 : Option Nat → Int → Int → AS → Option RS} (hk34 : ∀ (a0 : Option Nat) (x1 : Int) (x3 : Int) (S : AS), inR x1 → inR x3 → k34 a0 x1 x3 S = some q → ∀ ls : Array Slot, hp_L ls 7 [(0, rf b a0), (1, iv x1), (3, iv x3)] → hp_J p l e R s m args below meth c b D dA S0 (hp_Q below b D dA S0 1 q args s) S 34 ls []) {k43 : Option Nat → Int → Int → Int → AS → Option RS} (hk43 : ∀ (a0 : Option Nat) (x1 : Int) (x3 : Int) (x4 : Int) (S : AS), inR x1 → inR x3 → inR x4 → k43 a0 x1 x3 x4 S = some q → ∀ ls : Array Slot, hp_L ls 7 [(0, rf b a0), (1, iv x1), (3, iv x3), (4, iv x4)] → hp_J p l e R s m args below meth c b D dA S0 (hp_Q below b D dA S0 1 q args s) S 43 ls []) : ∀ (n : Nat), ∀ (a0 : Option Nat) (x1 : Int) (x3 : Int) (x4 : Int) (x5 : Int) (S : AS), inR x1 → inR x3 → inR x4 → inR x5 → f_X6_isWithin_55 n k34 k43 a0 x1 x3 x4 x5 S = some q → ∀ ls : Array Slot, hp_L ls 7 [(0, rf b a0), (1, iv x1), (3, iv x3), (4, iv x4), (5, iv x5)] → hp_J p l e R s m args below meth c b D dA S0 (hp_Q below b D dA S0 1 q args s) S 55 ls [] := by
  have hst : l.stackTraces = false := C.2.2.2.2.2.2.2.2.2.2.1
  intro n
  induction n with
  | zero =>
    intro a0 x1 x3 x4 x5 S hx1 hx3 hx4 hx5 h
    cases h
  | succ n ih =>
    intro a0 x1 x3 x4 x5 S hx1 hx3 hx4 hx5 h ls hl
    unfold f_X6_isWithin_55 at h
    refine j_iload C dX6_isWithin_55 (hl.at 4 rfl) ?_
    refine j_aload_n C dX6_isWithin_57 rfl (hl.at 0 rfl) ?_
    obtain ⟨o1, g_o1, h⟩ := bd h
    refine j_gR C dX6_isWithin_58 fl_RX6_20 rfl g_o1 ?_
    refine j_iload C dX6_isWithin_61 (hl.at 3 rfl) ?_
    obtain ⟨v2, g_v2, h⟩ := bd h
    refine j_iald C dX6_isWithin_63 hx4 g_v2 (fun hv2 => ?_)
    refine j_icmp_ge (tgt := 127) C dX6_isWithin_64 (by decide) hx5 hv2 (fun b1 => ?_) (fun b1 => ?_)
    · rw [if_pos b1] at h
      obtain ⟨z3, g_z3, h⟩ := bd h
      refine k_iinc (k9 := 3) (lv' := [(4, iv z3), (0, rf b a0), (1, iv x1), (3, iv x3), (5, iv x5)]) C dX6_isWithin_127 hl rfl g_z3 (by decide) rfl (fun hz3 ls hl => ?_)
      refine j_goto (tgt := 43) C dX6_isWithin_130 (by decide) ?_
      exact hk43 _ _ _ _ _ hx1 hx3 hz3 h ls (hl.sub [1, 2, 3, 0] rfl)
    · rw [if_neg b1] at h
      refine j_aload_n C dX6_isWithin_67 rfl (hl.at 0 rfl) ?_
      obtain ⟨o4, g_o4, h⟩ := bd h
      refine j_gR C dX6_isWithin_68 fl_RX6_76 rfl g_o4 ?_
      refine j_iload C dX6_isWithin_71 (hl.at 3 rfl) ?_
      obtain ⟨v5, g_v5, h⟩ := bd h
      refine j_iald C dX6_isWithin_73 hx4 g_v5 (fun hv5 => ?_)
      refine j_iconst C dX6_isWithin_74 ?_
      refine j_icmp_ne (tgt := 127) C dX6_isWithin_75 (by decide) hv5 (by decide) (fun b1 => ?_) (fun b1 => ?_)
      · rw [if_neg b1] at h
        obtain ⟨z6, g_z6, h⟩ := bd h
        refine k_iinc (k9 := 3) (lv' := [(4, iv z6), (0, rf b a0), (1, iv x1), (3, iv x3), (5, iv x5)]) C dX6_isWithin_127 hl rfl g_z6 (by decide) rfl (fun hz6 ls hl => ?_)
        refine j_goto (tgt := 43) C dX6_isWithin_130 (by decide) ?_
        exact hk43 _ _ _ _ _ hx1 hx3 hz6 h ls (hl.sub [1, 2, 3, 0] rfl)
      · rw [if_pos (Decidable.byContradiction b1)] at h
        refine j_aload_n C dX6_isWithin_78 rfl (hl.at 0 rfl) ?_
        obtain ⟨o7, g_o7, h⟩ := bd h
        refine j_gR C dX6_isWithin_79 fl_RX6_23 rfl g_o7 ?_
        refine j_bipush (x := 64) C dX6_isWithin_82 (by decide) ?_
        refine j_iload C dX6_isWithin_84 (hl.at 3 rfl) ?_
        obtain ⟨z8, g_z8, h⟩ := bd h
        refine j_imul C dX6_isWithin_86 g_z8 (fun hz8 => ?_)
        refine j_iload C dX6_isWithin_87 (hl.at 4 rfl) ?_
        obtain ⟨z9, g_z9, h⟩ := bd h
        refine j_iadd C dX6_isWithin_89 g_z9 (fun hz9 => ?_)
        obtain ⟨v10, g_v10, h⟩ := bd h
        refine j_iald C dX6_isWithin_90 hz9 g_v10 (fun hv10 => ?_)
        refine k_istore (lv' := [(6, iv v10), (0, rf b a0), (1, iv x1), (3, iv x3), (4, iv x4), (5, iv x5)]) C dX6_isWithin_91 hl (by decide) rfl (fun ls hl => ?_)
        refine j_iload_n C dX6_isWithin_93 rfl (hl.at 3 rfl) ?_
        refine j_if_ne (tgt := 107) C dX6_isWithin_94 (by decide) hx3 (fun b1 => ?_) (fun b1 => ?_)
        · rw [if_neg b1] at h
          exact w_X6_isWithin_107 C hT hnm hr hk34 hk43 ih _ _ _ _ _ _ hx1 hx4 hx5 hv10 h ls (hl.sub [1, 2, 4, 5, 0] rfl)
        · rw [if_pos (Decidable.byContradiction b1)] at h
          refine j_aload_n C dX6_isWithin_97 rfl (hl.at 1 rfl) ?_
          obtain ⟨o11, g_o11, h⟩ := bd h
          refine j_gR C dX6_isWithin_98 fl_RX6_76 rfl g_o11 ?_
          refine j_iload C dX6_isWithin_101 (hl.at 0 rfl) ?_
          obtain ⟨v12, g_v12, h⟩ := bd h
          refine j_iald C dX6_isWithin_103 hv10 g_v12 (fun hv12 => ?_)
          refine j_if_ne (tgt := 111) C dX6_isWithin_104 (by decide) hv12 (fun b1 => ?_) (fun b1 => ?_)
          · rw [if_neg b1] at h
            refine j_iconst C dX6_isWithin_111 ?_
            exact w_X6_isWithin_112 C hT hnm hr hk34 hk43 ih _ _ _ _ _ _ _ hx1 hx4 hx5 hv10 (by decide) h ls (hl.sub [1, 2, 4, 5, 0] rfl)
          · rw [if_pos (Decidable.byContradiction b1)] at h
            exact w_X6_isWithin_107 C hT hnm hr hk34 hk43 ih _ _ _ _ _ _ hx1 hx4 hx5 hv10 h ls (hl.sub [1, 2, 4, 5, 0] rfl)
noncomputable def f_X6_isWithin_43 (n : Nat) (k34 : Option Nat → Int → Int → AS → Option RS) (a0 : Option Nat) (x1 : Int) (x3 : Int) (x4 : Int) (S : AS) : Option RS := match n with
  | 0 => none
  | n + 1 =>
    (gI S a0 7 1).bind fun v1 =>
    if v1 ≤ x4 then
      k34 a0 x1 x3 S
    else
      f_X6_isWithin_55 FU k34 (f_X6_isWithin_43 n k34) a0 x1 x3 x4 0 S
set_option maxHeartbeats 4000000 in
set_option maxRecDepth 100000 in
theorem w_X6_isWithin_43 {p : Program} {l : Launch} {e : Env} {R : Room} {s : State} {m : MethodId} {args : Array Value} {below : List Frame} {meth : Method} {c : Code} {b : Nat} {D : va_G} {dA : Nat → ClassId} {S0 : AS} {q : RS} (C : hp_C p l e R s m args below meth c b D dA S0 RX6 cX6_isWithin 7 6 16) (hT : ∀ x ∈ c.exceptionTable.toList, False) (hnm : meth.name = "isWithin") (hr : meth.sig.returnType = (some .boolean)) {k34 : Option Nat → Int → Int → AS → Option RS} (hk34 : ∀ (a0 : Option Nat) (x1 : Int) (x3 : Int) (S : AS), inR x1 → inR x3 → k34 a0 x1 x3 S = some q → ∀ ls : Array Slot, hp_L ls 7 [(0, rf b a0), (1, iv x1), (3, iv x3)] → hp_J p l e R s m args below meth c b D dA S0 (hp_Q below b D dA S0 1 q args s) S 34 ls []) : ∀ (n : Nat), ∀ (a0 : Option Nat) (x1 : Int) (x3 : Int) (x4 : Int) (S : AS), inR x1 → inR x3 → inR x4 → f_X6_isWithin_43 n k34 a0 x1 x3 x4 S = some q → ∀ ls : Array Slot, hp_L ls 7 [(0, rf b a0), (1, iv x1), (3, iv x3), (4, iv x4)] → hp_J p l e R s m args below meth c b D dA S0 (hp_Q below b D dA S0 1 q args s) S 43 ls [] := by
  have hst : l.stackTraces = false := C.2.2.2.2.2.2.2.2.2.2.1
  intro n
  induction n with
  | zero =>
    intro a0 x1 x3 x4 S hx1 hx3 hx4 h
    cases h
  | succ n ih =>
    intro a0 x1 x3 x4 S hx1 hx3 hx4 h ls hl
    unfold f_X6_isWithin_43 at h
    refine j_iload C dX6_isWithin_43 (hl.at 3 rfl) ?_
    refine j_aload_n C dX6_isWithin_45 rfl (hl.at 0 rfl) ?_
    obtain ⟨v1, g_v1, h⟩ := bd h
    refine j_gI C dX6_isWithin_46 fl_RX6_89 (Or.inl rfl) g_v1 (fun hv1 => ?_)
    refine j_icmp_ge (tgt := 133) C dX6_isWithin_49 (by decide) hx4 hv1 (fun b1 => ?_) (fun b1 => ?_)
    · rw [if_pos b1] at h
      refine j_goto (tgt := 34) C dX6_isWithin_133 (by decide) ?_
      exact hk34 _ _ _ _ hx1 hx3 h ls (hl.sub [0, 1, 2] rfl)
    · rw [if_neg b1] at h
      refine j_iconst C dX6_isWithin_52 ?_
      refine k_istore (lv' := [(5, iv 0), (0, rf b a0), (1, iv x1), (3, iv x3), (4, iv x4)]) C dX6_isWithin_53 hl (by decide) rfl (fun ls hl => ?_)
      exact w_X6_isWithin_55 C hT hnm hr hk34 ih FU _ _ _ _ _ _ hx1 hx3 hx4 (by decide) h ls (hl.sub [1, 2, 3, 4, 0] rfl)
noncomputable def f_X6_isWithin_34 (n : Nat) (a0 : Option Nat) (x1 : Int) (x3 : Int) (S : AS) : Option RS := match n with
  | 0 => none
  | n + 1 =>
    if x3 = 0 then
      (gR S a0 7 26).bind fun o1 =>
      (aI S o1 8 x1).bind fun v2 =>
      if v2 = 1 then
        rZ 1 S
      else
        rZ 0 S
    else
      f_X6_isWithin_43 FU (f_X6_isWithin_34 n) a0 x1 0 0 S
set_option maxHeartbeats 4000000 in
set_option maxRecDepth 100000 in
theorem w_X6_isWithin_34 {p : Program} {l : Launch} {e : Env} {R : Room} {s : State} {m : MethodId} {args : Array Value} {below : List Frame} {meth : Method} {c : Code} {b : Nat} {D : va_G} {dA : Nat → ClassId} {S0 : AS} {q : RS} (C : hp_C p l e R s m args below meth c b D dA S0 RX6 cX6_isWithin 7 6 16) (hT : ∀ x ∈ c.exceptionTable.toList, False) (hnm : meth.name = "isWithin") (hr : meth.sig.returnType = (some .boolean)) : ∀ (n : Nat), ∀ (a0 : Option Nat) (x1 : Int) (x3 : Int) (S : AS), inR x1 → inR x3 → f_X6_isWithin_34 n a0 x1 x3 S = some q → ∀ ls : Array Slot, hp_L ls 7 [(0, rf b a0), (1, iv x1), (3, iv x3)] → hp_J p l e R s m args below meth c b D dA S0 (hp_Q below b D dA S0 1 q args s) S 34 ls [] := by
  have hst : l.stackTraces = false := C.2.2.2.2.2.2.2.2.2.2.1
  intro n
  induction n with
  | zero =>
    intro a0 x1 x3 S hx1 hx3 h
    cases h
  | succ n ih =>
    intro a0 x1 x3 S hx1 hx3 h ls hl
    unfold f_X6_isWithin_34 at h
    refine j_iload_n C dX6_isWithin_34 rfl (hl.at 2 rfl) ?_
    refine j_if_eq (tgt := 136) C dX6_isWithin_35 (by decide) hx3 (fun b1 => ?_) (fun b1 => ?_)
    · rw [if_pos b1] at h
      refine j_aload_n C dX6_isWithin_136 rfl (hl.at 0 rfl) ?_
      obtain ⟨o1, g_o1, h⟩ := bd h
      refine j_gR C dX6_isWithin_137 fl_RX6_76 rfl g_o1 ?_
      refine j_iload_n C dX6_isWithin_140 rfl (hl.at 1 rfl) ?_
      obtain ⟨v2, g_v2, h⟩ := bd h
      refine j_iald C dX6_isWithin_141 hx1 g_v2 (fun hv2 => ?_)
      refine j_iconst C dX6_isWithin_142 ?_
      refine j_icmp_ne (tgt := 150) C dX6_isWithin_143 (by decide) hv2 (by decide) (fun b1 => ?_) (fun b1 => ?_)
      · rw [if_neg b1] at h
        refine j_iconst C dX6_isWithin_150 ?_
        exact j_zret C dX6_isWithin_151 hr h
      · rw [if_pos (Decidable.byContradiction b1)] at h
        refine j_iconst C dX6_isWithin_146 ?_
        refine j_goto (tgt := 151) C dX6_isWithin_147 (by decide) ?_
        exact j_zret C dX6_isWithin_151 hr h
    · rw [if_neg b1] at h
      refine j_iconst C dX6_isWithin_38 ?_
      refine k_istore_n (lv' := [(3, iv 0), (0, rf b a0), (1, iv x1)]) C dX6_isWithin_39 rfl hl (by decide) rfl (fun ls hl => ?_)
      refine j_iconst C dX6_isWithin_40 ?_
      refine k_istore (lv' := [(4, iv 0), (3, iv 0), (0, rf b a0), (1, iv x1)]) C dX6_isWithin_41 hl (by decide) rfl (fun ls hl => ?_)
      exact w_X6_isWithin_43 C hT hnm hr ih FU _ _ _ _ _ hx1 (by decide) (by decide) h ls (hl.sub [2, 3, 1, 0] rfl)
noncomputable def f_X6_isWithin_2 (n : Nat) (a0 : Option Nat) (x1 : Int) (x2 : Int) (x3 : Int) (S : AS) : Option RS := match n with
  | 0 => none
  | n + 1 =>
    (gI S a0 7 1).bind fun v1 =>
    if v1 ≤ x3 then
      f_X6_isWithin_34 FU a0 x1 1 S
    else
      (gR S a0 7 26).bind fun o2 =>
      if x3 = x2 then
        (sI S o2 8 x3 1).bind fun S5 =>
        (chk (x3 + 1)).bind fun z6 =>
        f_X6_isWithin_2 n a0 x1 x2 z6 S5
      else
        (sI S o2 8 x3 0).bind fun S3 =>
        (chk (x3 + 1)).bind fun z4 =>
        f_X6_isWithin_2 n a0 x1 x2 z4 S3
set_option maxHeartbeats 4000000 in
set_option maxRecDepth 100000 in
theorem w_X6_isWithin_2 {p : Program} {l : Launch} {e : Env} {R : Room} {s : State} {m : MethodId} {args : Array Value} {below : List Frame} {meth : Method} {c : Code} {b : Nat} {D : va_G} {dA : Nat → ClassId} {S0 : AS} {q : RS} (C : hp_C p l e R s m args below meth c b D dA S0 RX6 cX6_isWithin 7 6 16) (hT : ∀ x ∈ c.exceptionTable.toList, False) (hnm : meth.name = "isWithin") (hr : meth.sig.returnType = (some .boolean)) : ∀ (n : Nat), ∀ (a0 : Option Nat) (x1 : Int) (x2 : Int) (x3 : Int) (S : AS), inR x1 → inR x2 → inR x3 → f_X6_isWithin_2 n a0 x1 x2 x3 S = some q → ∀ ls : Array Slot, hp_L ls 7 [(0, rf b a0), (1, iv x1), (2, iv x2), (3, iv x3)] → hp_J p l e R s m args below meth c b D dA S0 (hp_Q below b D dA S0 1 q args s) S 2 ls [] := by
  have hst : l.stackTraces = false := C.2.2.2.2.2.2.2.2.2.2.1
  intro n
  induction n with
  | zero =>
    intro a0 x1 x2 x3 S hx1 hx2 hx3 h
    cases h
  | succ n ih =>
    intro a0 x1 x2 x3 S hx1 hx2 hx3 h ls hl
    unfold f_X6_isWithin_2 at h
    refine j_iload_n C dX6_isWithin_2 rfl (hl.at 3 rfl) ?_
    refine j_aload_n C dX6_isWithin_3 rfl (hl.at 0 rfl) ?_
    obtain ⟨v1, g_v1, h⟩ := bd h
    refine j_gI C dX6_isWithin_4 fl_RX6_89 (Or.inl rfl) g_v1 (fun hv1 => ?_)
    refine j_icmp_ge (tgt := 32) C dX6_isWithin_7 (by decide) hx3 hv1 (fun b1 => ?_) (fun b1 => ?_)
    · rw [if_pos b1] at h
      refine j_iconst C dX6_isWithin_32 ?_
      refine k_istore_n (lv' := [(3, iv 1), (0, rf b a0), (1, iv x1), (2, iv x2)]) C dX6_isWithin_33 rfl hl (by decide) rfl (fun ls hl => ?_)
      exact w_X6_isWithin_34 C hT hnm hr FU _ _ _ _ hx1 (by decide) h ls (hl.sub [1, 2, 0] rfl)
    · rw [if_neg b1] at h
      refine j_aload_n C dX6_isWithin_10 rfl (hl.at 0 rfl) ?_
      obtain ⟨o2, g_o2, h⟩ := bd h
      refine j_gR C dX6_isWithin_11 fl_RX6_76 rfl g_o2 ?_
      refine j_iload_n C dX6_isWithin_14 rfl (hl.at 3 rfl) ?_
      refine j_iload_n C dX6_isWithin_15 rfl (hl.at 3 rfl) ?_
      refine j_iload_n C dX6_isWithin_16 rfl (hl.at 2 rfl) ?_
      refine j_icmp_ne (tgt := 24) C dX6_isWithin_17 (by decide) hx3 hx2 (fun b1 => ?_) (fun b1 => ?_)
      · rw [if_neg b1] at h
        refine j_iconst C dX6_isWithin_24 ?_
        obtain ⟨S3, g_S3, h⟩ := bd h
        refine j_iast C dX6_isWithin_25 hx3 (by decide) g_S3 ?_
        obtain ⟨z4, g_z4, h⟩ := bd h
        refine k_iinc (k9 := 3) (lv' := [(3, iv z4), (0, rf b a0), (1, iv x1), (2, iv x2)]) C dX6_isWithin_26 hl rfl g_z4 (by decide) rfl (fun hz4 ls hl => ?_)
        refine j_goto (tgt := 2) C dX6_isWithin_29 (by decide) ?_
        exact ih _ _ _ _ _ hx1 hx2 hz4 h ls (hl.sub [1, 2, 3, 0] rfl)
      · rw [if_pos (Decidable.byContradiction b1)] at h
        refine j_iconst C dX6_isWithin_20 ?_
        refine j_goto (tgt := 25) C dX6_isWithin_21 (by decide) ?_
        obtain ⟨S5, g_S5, h⟩ := bd h
        refine j_iast C dX6_isWithin_25 hx3 (by decide) g_S5 ?_
        obtain ⟨z6, g_z6, h⟩ := bd h
        refine k_iinc (k9 := 3) (lv' := [(3, iv z6), (0, rf b a0), (1, iv x1), (2, iv x2)]) C dX6_isWithin_26 hl rfl g_z6 (by decide) rfl (fun hz6 ls hl => ?_)
        refine j_goto (tgt := 2) C dX6_isWithin_29 (by decide) ?_
        exact ih _ _ _ _ _ hx1 hx2 hz6 h ls (hl.sub [1, 2, 3, 0] rfl)
noncomputable def f_X6_isWithin (a0 : Option Nat) (x1 : Int) (x2 : Int) (S : AS) : Option RS :=
  f_X6_isWithin_2 FU a0 x1 x2 0 S
set_option maxHeartbeats 4000000 in
set_option maxRecDepth 100000 in
theorem m_X6_isWithin {l : Launch} {b : Nat} {D : va_G} {dA : Nat → ClassId} (hst : l.stackTraces = false) {a0 : Option Nat} {x1 : Int} {x2 : Int} {S : AS} {q : RS} (hx1 : inR x1) (hx2 : inR x2) (h : f_X6_isWithin a0 x1 x2 S = some q) : hp_M l b D dA yX6_isWithin cX6_isWithin 7 (some .boolean) 6 16 [rf b a0, iv x1, iv x2] S 1 q := by
  have hcat : ∀ v ∈ ([rf b a0, iv x1, iv x2] : List Value), v.category = 1 := (by intro v hv; simp only [List.mem_cons, List.not_mem_nil, or_false] at hv; rcases hv with rfl | rfl | rfl <;> first | exact cat_iv _ | exact cat_rf _ _)
  refine hp_ofJ (own := RX6) hst (by decide +kernel) rfl hcat (Nat.le_of_ble_eq_true rfl) ?_
  intro p e R s m args below meth c C hT hnm hr ls hl9
  have hl : hp_L ls 7 [(0, rf b a0), (1, iv x1), (2, iv x2)] := hp_L.of hl9 hcat
  unfold f_X6_isWithin at h
  refine j_iconst C dX6_isWithin_0 ?_
  refine k_istore_n (lv' := [(3, iv 0), (0, rf b a0), (1, iv x1), (2, iv x2)]) C dX6_isWithin_1 rfl hl (by decide) rfl (fun ls hl => ?_)
  exact w_X6_isWithin_2 C hT hnm hr FU _ _ _ _ _ hx1 hx2 (by decide) h ls (hl.sub [1, 2, 3, 0] rfl)
noncomputable def f_X6_change_40 (k4 : Option Nat → Int → Int → Int → AS → Option RS) (a0 : Option Nat) (x1 : Int) (x3 : Int) (S : AS) : Option RS :=
  (chk (x3 + 1)).bind fun z1 =>
  k4 a0 x1 0 z1 S
set_option maxHeartbeats 4000000 in
set_option maxRecDepth 100000 in
theorem w_X6_change_40 {p : Program} {l : Launch} {e : Env} {R : Room} {s : State} {m : MethodId} {args : Array Value} {below : List Frame} {meth : Method} {c : Code} {b : Nat} {D : va_G} {dA : Nat → ClassId} {S0 : AS} {q : RS} (C : hp_C p l e R s m args below meth c b D dA S0 RX6 cX6_change 4 6 16) (hT : ∀ x ∈ c.exceptionTable.toList, False) (hnm : meth.name = "change") (hr : meth.sig.returnType = none) {k4 : Option Nat → Int → Int → Int → AS → Option RS} (hk4 : ∀ (a0 : Option Nat) (x1 : Int) (x2 : Int) (x3 : Int) (S : AS), inR x1 → inR x2 → inR x3 → k4 a0 x1 x2 x3 S = some q → ∀ ls : Array Slot, hp_L ls 4 [(0, rf b a0), (1, iv x1), (2, iv x2), (3, iv x3)] → hp_J p l e R s m args below meth c b D dA S0 (hp_Q below b D dA S0 0 q args s) S 4 ls []) : ∀ (a0 : Option Nat) (x1 : Int) (x3 : Int) (S : AS), inR x1 → inR x3 → f_X6_change_40 k4 a0 x1 x3 S = some q → ∀ ls : Array Slot, hp_L ls 4 [(0, rf b a0), (1, iv x1), (3, iv x3)] → hp_J p l e R s m args below meth c b D dA S0 (hp_Q below b D dA S0 0 q args s) S 40 ls [] := by
  have hst : l.stackTraces = false := C.2.2.2.2.2.2.2.2.2.2.1
  intro a0 x1 x3 S hx1 hx3 h ls hl
  unfold f_X6_change_40 at h
  refine j_iconst C dX6_change_40 ?_
  refine k_istore_n (lv' := [(2, iv 0), (0, rf b a0), (1, iv x1), (3, iv x3)]) C dX6_change_41 rfl hl (by decide) rfl (fun ls hl => ?_)
  obtain ⟨z1, g_z1, h⟩ := bd h
  refine k_iinc (k9 := 3) (lv' := [(3, iv z1), (2, iv 0), (0, rf b a0), (1, iv x1)]) C dX6_change_42 hl rfl g_z1 (by decide) rfl (fun hz1 ls hl => ?_)
  refine j_goto (tgt := 4) C dX6_change_45 (by decide) ?_
  exact hk4 _ _ _ _ _ hx1 (by decide) hz1 h ls (hl.sub [2, 3, 1, 0] rfl)
noncomputable def f_X6_change_36 (k4 : Option Nat → Int → Int → Int → AS → Option RS) (a0 : Option Nat) (x1 : Int) (x3 : Int) (S : AS) : Option RS :=
  (chk (x3 + 1)).bind fun z1 =>
  k4 a0 x1 1 z1 S
set_option maxHeartbeats 4000000 in
set_option maxRecDepth 100000 in
theorem w_X6_change_36 {p : Program} {l : Launch} {e : Env} {R : Room} {s : State} {m : MethodId} {args : Array Value} {below : List Frame} {meth : Method} {c : Code} {b : Nat} {D : va_G} {dA : Nat → ClassId} {S0 : AS} {q : RS} (C : hp_C p l e R s m args below meth c b D dA S0 RX6 cX6_change 4 6 16) (hT : ∀ x ∈ c.exceptionTable.toList, False) (hnm : meth.name = "change") (hr : meth.sig.returnType = none) {k4 : Option Nat → Int → Int → Int → AS → Option RS} (hk4 : ∀ (a0 : Option Nat) (x1 : Int) (x2 : Int) (x3 : Int) (S : AS), inR x1 → inR x2 → inR x3 → k4 a0 x1 x2 x3 S = some q → ∀ ls : Array Slot, hp_L ls 4 [(0, rf b a0), (1, iv x1), (2, iv x2), (3, iv x3)] → hp_J p l e R s m args below meth c b D dA S0 (hp_Q below b D dA S0 0 q args s) S 4 ls []) : ∀ (a0 : Option Nat) (x1 : Int) (x3 : Int) (S : AS), inR x1 → inR x3 → f_X6_change_36 k4 a0 x1 x3 S = some q → ∀ ls : Array Slot, hp_L ls 4 [(0, rf b a0), (1, iv x1), (3, iv x3)] → hp_J p l e R s m args below meth c b D dA S0 (hp_Q below b D dA S0 0 q args s) S 36 ls [] := by
  have hst : l.stackTraces = false := C.2.2.2.2.2.2.2.2.2.2.1
  intro a0 x1 x3 S hx1 hx3 h ls hl
  unfold f_X6_change_36 at h
  refine j_iconst C dX6_change_36 ?_
  refine j_goto (tgt := 41) C dX6_change_37 (by decide) ?_
  refine k_istore_n (lv' := [(2, iv 1), (0, rf b a0), (1, iv x1), (3, iv x3)]) C dX6_change_41 rfl hl (by decide) rfl (fun ls hl => ?_)
  obtain ⟨z1, g_z1, h⟩ := bd h
  refine k_iinc (k9 := 3) (lv' := [(3, iv z1), (2, iv 1), (0, rf b a0), (1, iv x1)]) C dX6_change_42 hl rfl g_z1 (by decide) rfl (fun hz1 ls hl => ?_)
  refine j_goto (tgt := 4) C dX6_change_45 (by decide) ?_
  exact hk4 _ _ _ _ _ hx1 (by decide) hz1 h ls (hl.sub [2, 3, 1, 0] rfl)
noncomputable def f_X6_change_4 (n : Nat) (a0 : Option Nat) (x1 : Int) (x2 : Int) (x3 : Int) (S : AS) : Option RS := match n with
  | 0 => none
  | n + 1 =>
    (gI S a0 7 1).bind fun v1 =>
    if v1 ≤ x3 then
      if x2 = 0 then
        (gI S a0 7 9).bind fun v2 =>
        (chk (v2 + 1)).bind fun z3 =>
        (pI S a0 7 9 z3).bind fun S4 =>
        (gR S4 a0 7 8).bind fun o5 =>
        (gI S4 a0 7 9).bind fun v6 =>
        (sI S4 o5 8 x1 v6).bind fun S7 =>
        rV S7
      else
        rV S
    else
      if x2 = 0 then
        f_X6_change_40 (f_X6_change_4 n) a0 x1 x3 S
      else
        if x3 = x1 then
          f_X6_change_36 (f_X6_change_4 n) a0 x1 x3 S
        else
          (gR S a0 7 8).bind fun o8 =>
          (aI S o8 8 x3).bind fun v9 =>
          (gR S a0 7 8).bind fun o10 =>
          (aI S o10 8 x1).bind fun v11 =>
          if v9 = v11 then
            f_X6_change_40 (f_X6_change_4 n) a0 x1 x3 S
          else
            f_X6_change_36 (f_X6_change_4 n) a0 x1 x3 S
set_option maxHeartbeats 4000000 in
set_option maxRecDepth 100000 in
theorem w_X6_change_4 {p : Program} {l : Launch} {e : Env} {R : Room} {s : State} {m : MethodId} {args : Array Value} {below : List Frame} {meth : Method} {c : Code} {b : Nat} {D : va_G} {dA : Nat → ClassId} {S0 : AS} {q : RS} (C : hp_C p l e R s m args below meth c b D dA S0 RX6 cX6_change 4 6 16) (hT : ∀ x ∈ c.exceptionTable.toList, False) (hnm : meth.name = "change") (hr : meth.sig.returnType = none) : ∀ (n : Nat), ∀ (a0 : Option Nat) (x1 : Int) (x2 : Int) (x3 : Int) (S : AS), inR x1 → inR x2 → inR x3 → f_X6_change_4 n a0 x1 x2 x3 S = some q → ∀ ls : Array Slot, hp_L ls 4 [(0, rf b a0), (1, iv x1), (2, iv x2), (3, iv x3)] → hp_J p l e R s m args below meth c b D dA S0 (hp_Q below b D dA S0 0 q args s) S 4 ls [] := by
  have hst : l.stackTraces = false := C.2.2.2.2.2.2.2.2.2.2.1
  intro n
  induction n with
  | zero =>
    intro a0 x1 x2 x3 S hx1 hx2 hx3 h
    cases h
  | succ n ih =>
    intro a0 x1 x2 x3 S hx1 hx2 hx3 h ls hl
    unfold f_X6_change_4 at h
    refine j_iload_n C dX6_change_4 rfl (hl.at 3 rfl) ?_
    refine j_aload_n C dX6_change_5 rfl (hl.at 0 rfl) ?_
    obtain ⟨v1, g_v1, h⟩ := bd h
    refine j_gI C dX6_change_6 fl_RX6_89 (Or.inl rfl) g_v1 (fun hv1 => ?_)
    refine j_icmp_ge (tgt := 48) C dX6_change_9 (by decide) hx3 hv1 (fun b1 => ?_) (fun b1 => ?_)
    · rw [if_pos b1] at h
      refine j_iload_n C dX6_change_48 rfl (hl.at 2 rfl) ?_
      refine j_if_ne (tgt := 72) C dX6_change_49 (by decide) hx2 (fun b1 => ?_) (fun b1 => ?_)
      · rw [if_neg b1] at h
        exact j_vret C dX6_change_72 hr h
      · rw [if_pos (Decidable.byContradiction b1)] at h
        refine j_aload_n C dX6_change_52 rfl (hl.at 0 rfl) ?_
        refine j_dup C dX6_change_53 (cat_rf _ _) ?_
        obtain ⟨v2, g_v2, h⟩ := bd h
        refine j_gI C dX6_change_54 fl_RX6_96 (Or.inl rfl) g_v2 (fun hv2 => ?_)
        refine j_iconst C dX6_change_57 ?_
        obtain ⟨z3, g_z3, h⟩ := bd h
        refine j_iadd C dX6_change_58 g_z3 (fun hz3 => ?_)
        obtain ⟨S4, g_S4, h⟩ := bd h
        refine j_pI C dX6_change_59 fl_RX6_96 (Or.inl rfl) rfl hz3 g_S4 ?_
        refine j_aload_n C dX6_change_62 rfl (hl.at 0 rfl) ?_
        obtain ⟨o5, g_o5, h⟩ := bd h
        refine j_gR C dX6_change_63 fl_RX6_29 rfl g_o5 ?_
        refine j_iload_n C dX6_change_66 rfl (hl.at 1 rfl) ?_
        refine j_aload_n C dX6_change_67 rfl (hl.at 0 rfl) ?_
        obtain ⟨v6, g_v6, h⟩ := bd h
        refine j_gI C dX6_change_68 fl_RX6_96 (Or.inl rfl) g_v6 (fun hv6 => ?_)
        obtain ⟨S7, g_S7, h⟩ := bd h
        refine j_iast C dX6_change_71 hx1 hv6 g_S7 ?_
        exact j_vret C dX6_change_72 hr h
    · rw [if_neg b1] at h
      refine j_iload_n C dX6_change_12 rfl (hl.at 2 rfl) ?_
      refine j_if_eq (tgt := 40) C dX6_change_13 (by decide) hx2 (fun b1 => ?_) (fun b1 => ?_)
      · rw [if_pos b1] at h
        exact w_X6_change_40 C hT hnm hr ih _ _ _ _ hx1 hx3 h ls (hl.sub [0, 1, 3] rfl)
      · rw [if_neg b1] at h
        refine j_iload_n C dX6_change_16 rfl (hl.at 3 rfl) ?_
        refine j_iload_n C dX6_change_17 rfl (hl.at 1 rfl) ?_
        refine j_icmp_eq (tgt := 36) C dX6_change_18 (by decide) hx3 hx1 (fun b1 => ?_) (fun b1 => ?_)
        · rw [if_pos b1] at h
          exact w_X6_change_36 C hT hnm hr ih _ _ _ _ hx1 hx3 h ls (hl.sub [0, 1, 3] rfl)
        · rw [if_neg b1] at h
          refine j_aload_n C dX6_change_21 rfl (hl.at 0 rfl) ?_
          obtain ⟨o8, g_o8, h⟩ := bd h
          refine j_gR C dX6_change_22 fl_RX6_29 rfl g_o8 ?_
          refine j_iload_n C dX6_change_25 rfl (hl.at 3 rfl) ?_
          obtain ⟨v9, g_v9, h⟩ := bd h
          refine j_iald C dX6_change_26 hx3 g_v9 (fun hv9 => ?_)
          refine j_aload_n C dX6_change_27 rfl (hl.at 0 rfl) ?_
          obtain ⟨o10, g_o10, h⟩ := bd h
          refine j_gR C dX6_change_28 fl_RX6_29 rfl g_o10 ?_
          refine j_iload_n C dX6_change_31 rfl (hl.at 1 rfl) ?_
          obtain ⟨v11, g_v11, h⟩ := bd h
          refine j_iald C dX6_change_32 hx1 g_v11 (fun hv11 => ?_)
          refine j_icmp_eq (tgt := 40) C dX6_change_33 (by decide) hv9 hv11 (fun b1 => ?_) (fun b1 => ?_)
          · rw [if_pos b1] at h
            exact w_X6_change_40 C hT hnm hr ih _ _ _ _ hx1 hx3 h ls (hl.sub [0, 1, 3] rfl)
          · rw [if_neg b1] at h
            exact w_X6_change_36 C hT hnm hr ih _ _ _ _ hx1 hx3 h ls (hl.sub [0, 1, 3] rfl)
noncomputable def f_X6_change (a0 : Option Nat) (x1 : Int) (S : AS) : Option RS :=
  f_X6_change_4 FU a0 x1 1 0 S
set_option maxHeartbeats 4000000 in
set_option maxRecDepth 100000 in
theorem m_X6_change {l : Launch} {b : Nat} {D : va_G} {dA : Nat → ClassId} (hst : l.stackTraces = false) {a0 : Option Nat} {x1 : Int} {S : AS} {q : RS} (hx1 : inR x1) (h : f_X6_change a0 x1 S = some q) : hp_M l b D dA yX6_change cX6_change 4 none 6 16 [rf b a0, iv x1] S 0 q := by
  have hcat : ∀ v ∈ ([rf b a0, iv x1] : List Value), v.category = 1 := (by intro v hv; simp only [List.mem_cons, List.not_mem_nil, or_false] at hv; rcases hv with rfl | rfl <;> first | exact cat_iv _ | exact cat_rf _ _)
  refine hp_ofJ (own := RX6) hst (by decide +kernel) rfl hcat (Nat.le_of_ble_eq_true rfl) ?_
  intro p e R s m args below meth c C hT hnm hr ls hl9
  have hl : hp_L ls 4 [(0, rf b a0), (1, iv x1)] := hp_L.of hl9 hcat
  unfold f_X6_change at h
  refine j_iconst C dX6_change_0 ?_
  refine k_istore_n (lv' := [(2, iv 1), (0, rf b a0), (1, iv x1)]) C dX6_change_1 rfl hl (by decide) rfl (fun ls hl => ?_)
  refine j_iconst C dX6_change_2 ?_
  refine k_istore_n (lv' := [(3, iv 0), (2, iv 1), (0, rf b a0), (1, iv x1)]) C dX6_change_3 rfl hl (by decide) rfl (fun ls hl => ?_)
  exact w_X6_change_4 C hT hnm hr FU _ _ _ _ _ hx1 (by decide) (by decide) h ls (hl.sub [2, 3, 1, 0] rfl)
noncomputable def f_X6_instance_58 (a0 : Option Nat) (x1 : Int) (x2 : Int) (t0 : Int) (t1 : Int) (u2 : Option Nat) (S : AS) : Option RS :=
  gd (isK S u2 7) <|
  cI (f_X6_refused u2 t1 t0 S) fun v2 S1 =>
  if v2 = 0 then
    gd (isK S1 a0 7) <|
    cI (f_X6_isWithin a0 x1 x2 S1) fun v5 S4 =>
    if v5 = 0 then
      gd (isK S4 a0 7) <|
      cV (f_X6_change a0 x1 S4) fun S7 =>
      (gR S7 a0 7 5).bind fun o10 =>
      (aI S7 o10 8 x1).bind fun v11 =>
      (gR S7 a0 7 6).bind fun o12 =>
      (chk (64 * x1)).bind fun z13 =>
      (chk (z13 + v11)).bind fun z14 =>
      (sI S7 o12 8 z14 x2).bind fun S15 =>
      (gR S15 a0 7 11).bind fun o16 =>
      (chk (64 * x1)).bind fun z17 =>
      (chk (z17 + v11)).bind fun z18 =>
      (sI S15 o16 8 z18 0).bind fun S19 =>
      (gR S19 a0 7 5).bind fun o20 =>
      (aI S19 o20 8 x1).bind fun v21 =>
      (chk (v21 + 1)).bind fun z22 =>
      (sI S19 o20 8 x1 z22).bind fun S23 =>
      rI v11 S23
    else
      rI (-1) S4
  else
    rI 0 S1
set_option maxHeartbeats 4000000 in
set_option maxRecDepth 100000 in
theorem w_X6_instance_58 {p : Program} {l : Launch} {e : Env} {R : Room} {s : State} {m : MethodId} {args : Array Value} {below : List Frame} {meth : Method} {c : Code} {b : Nat} {D : va_G} {dA : Nat → ClassId} {S0 : AS} {q : RS} (C : hp_C p l e R s m args below meth c b D dA S0 RX6 cX6_instance 5 7 42) (hT : ∀ x ∈ c.exceptionTable.toList, False) (hnm : meth.name = "instance") (hr : meth.sig.returnType = (some .int)) : ∀ (a0 : Option Nat) (x1 : Int) (x2 : Int) (t0 : Int) (t1 : Int) (u2 : Option Nat) (S : AS), inR x1 → inR x2 → inR t0 → inR t1 → f_X6_instance_58 a0 x1 x2 t0 t1 u2 S = some q → ∀ ls : Array Slot, hp_L ls 5 [(0, rf b a0), (1, iv x1), (2, iv x2)] → hp_J p l e R s m args below meth c b D dA S0 (hp_Q below b D dA S0 1 q args s) S 58 ls [iv t0, iv t1, rf b u2] := by
  have hst : l.stackTraces = false := C.2.2.2.2.2.2.2.2.2.2.1
  intro a0 x1 x2 t0 t1 u2 S hx1 hx2 ht0 ht1 h ls hl
  unfold f_X6_instance_58 at h
  obtain ⟨c3, h⟩ := gd_some h
  rcases cI_some h with ⟨S1, v2, wv2, hc, h⟩ | ⟨hc, hne⟩
  · refine j_callI C (run_W (As := [iv t1, iv t0]) (rest := []) C (m_X6_refused hst ht1 ht0 hc) cv_RX6_107 (by decide) rfl c3 rfl hl (by decide) (by decide) (by decide) dX6_instance_58) (fun hv2 => ?_)
    refine j_if_eq (tgt := 66) C dX6_instance_61 (by decide) hv2 (fun b1 => ?_) (fun b1 => ?_)
    · rw [if_pos b1] at h
      refine j_aload_n C dX6_instance_66 rfl (hl.at 0 rfl) ?_
      refine j_iload_n C dX6_instance_67 rfl (hl.at 1 rfl) ?_
      refine j_iload_n C dX6_instance_68 rfl (hl.at 2 rfl) ?_
      obtain ⟨c6, h⟩ := gd_some h
      rcases cI_some h with ⟨S4, v5, wv5, hc, h⟩ | ⟨hc, hne⟩
      · refine j_callI C (run_W (As := [iv x1, iv x2]) (rest := []) C (m_X6_isWithin hst hx1 hx2 hc) cv_RX6_111 (by decide) rfl c6 rfl hl (by decide) (by decide) (by decide) dX6_instance_69) (fun hv5 => ?_)
        refine j_if_eq (tgt := 77) C dX6_instance_72 (by decide) hv5 (fun b1 => ?_) (fun b1 => ?_)
        · rw [if_pos b1] at h
          refine j_aload_n C dX6_instance_77 rfl (hl.at 0 rfl) ?_
          refine j_iload_n C dX6_instance_78 rfl (hl.at 1 rfl) ?_
          obtain ⟨c9, h⟩ := gd_some h
          rcases cV_some h with ⟨S7, y8, hc, h⟩ | ⟨hc, hne⟩
          · refine j_callV C (run_W (As := [iv x1]) (rest := []) C (m_X6_change hst hx1 hc) cv_RX6_114 (by decide) rfl c9 rfl hl (by decide) (by decide) (by decide) dX6_instance_79) ?_
            refine j_aload_n C dX6_instance_82 rfl (hl.at 0 rfl) ?_
            obtain ⟨o10, g_o10, h⟩ := bd h
            refine j_gR C dX6_instance_83 fl_RX6_20 rfl g_o10 ?_
            refine j_iload_n C dX6_instance_86 rfl (hl.at 1 rfl) ?_
            obtain ⟨v11, g_v11, h⟩ := bd h
            refine j_iald C dX6_instance_87 hx1 g_v11 (fun hv11 => ?_)
            refine k_istore (lv' := [(4, iv v11), (0, rf b a0), (1, iv x1), (2, iv x2)]) C dX6_instance_88 hl (by decide) rfl (fun ls hl => ?_)
            refine j_aload_n C dX6_instance_90 rfl (hl.at 1 rfl) ?_
            obtain ⟨o12, g_o12, h⟩ := bd h
            refine j_gR C dX6_instance_91 fl_RX6_23 rfl g_o12 ?_
            refine j_bipush (x := 64) C dX6_instance_94 (by decide) ?_
            refine j_iload_n C dX6_instance_96 rfl (hl.at 2 rfl) ?_
            obtain ⟨z13, g_z13, h⟩ := bd h
            refine j_imul C dX6_instance_97 g_z13 (fun hz13 => ?_)
            refine j_iload C dX6_instance_98 (hl.at 0 rfl) ?_
            obtain ⟨z14, g_z14, h⟩ := bd h
            refine j_iadd C dX6_instance_100 g_z14 (fun hz14 => ?_)
            refine j_iload_n C dX6_instance_101 rfl (hl.at 3 rfl) ?_
            obtain ⟨S15, g_S15, h⟩ := bd h
            refine j_iast C dX6_instance_102 hz14 hx2 g_S15 ?_
            refine j_aload_n C dX6_instance_103 rfl (hl.at 1 rfl) ?_
            obtain ⟨o16, g_o16, h⟩ := bd h
            refine j_gR C dX6_instance_104 fl_RX6_36 rfl g_o16 ?_
            refine j_bipush (x := 64) C dX6_instance_107 (by decide) ?_
            refine j_iload_n C dX6_instance_109 rfl (hl.at 2 rfl) ?_
            obtain ⟨z17, g_z17, h⟩ := bd h
            refine j_imul C dX6_instance_110 g_z17 (fun hz17 => ?_)
            refine j_iload C dX6_instance_111 (hl.at 0 rfl) ?_
            obtain ⟨z18, g_z18, h⟩ := bd h
            refine j_iadd C dX6_instance_113 g_z18 (fun hz18 => ?_)
            refine j_iconst C dX6_instance_114 ?_
            obtain ⟨S19, g_S19, h⟩ := bd h
            refine j_iast C dX6_instance_115 hz18 (by decide) g_S19 ?_
            refine j_aload_n C dX6_instance_116 rfl (hl.at 1 rfl) ?_
            obtain ⟨o20, g_o20, h⟩ := bd h
            refine j_gR C dX6_instance_117 fl_RX6_20 rfl g_o20 ?_
            refine j_iload_n C dX6_instance_120 rfl (hl.at 2 rfl) ?_
            refine j_dup2 C dX6_instance_121 (cat_iv _) (cat_rf _ _) ?_
            obtain ⟨v21, g_v21, h⟩ := bd h
            refine j_iald C dX6_instance_122 hx1 g_v21 (fun hv21 => ?_)
            refine j_iconst C dX6_instance_123 ?_
            obtain ⟨z22, g_z22, h⟩ := bd h
            refine j_iadd C dX6_instance_124 g_z22 (fun hz22 => ?_)
            obtain ⟨S23, g_S23, h⟩ := bd h
            refine j_iast C dX6_instance_125 hx1 hz22 g_S23 ?_
            refine j_iload C dX6_instance_126 (hl.at 0 rfl) ?_
            exact j_iret C dX6_instance_128 hr hv11 h
          · exact j_thrown C hT (run_W (As := [iv x1]) (rest := []) C (m_X6_change hst hx1 hc) cv_RX6_114 (by decide) rfl c9 rfl hl (by decide) (by decide) (by decide) dX6_instance_79) hne
        · rw [if_neg b1] at h
          refine j_iconst C dX6_instance_75 ?_
          exact j_iret C dX6_instance_76 hr (by decide) h
      · exact j_thrown C hT (run_W (As := [iv x1, iv x2]) (rest := []) C (m_X6_isWithin hst hx1 hx2 hc) cv_RX6_111 (by decide) rfl c6 rfl hl (by decide) (by decide) (by decide) dX6_instance_69) hne
    · rw [if_neg b1] at h
      refine j_iconst C dX6_instance_64 ?_
      exact j_iret C dX6_instance_65 hr (by decide) h
  · exact j_thrown C hT (run_W (As := [iv t1, iv t0]) (rest := []) C (m_X6_refused hst ht1 ht0 hc) cv_RX6_107 (by decide) rfl c3 rfl hl (by decide) (by decide) (by decide) dX6_instance_58) hne
noncomputable def f_X6_instance_57 (a0 : Option Nat) (x1 : Int) (x2 : Int) (t0 : Int) (u1 : Option Nat) (S : AS) : Option RS :=
  f_X6_instance_58 a0 x1 x2 0 t0 u1 S
set_option maxHeartbeats 4000000 in
set_option maxRecDepth 100000 in
theorem w_X6_instance_57 {p : Program} {l : Launch} {e : Env} {R : Room} {s : State} {m : MethodId} {args : Array Value} {below : List Frame} {meth : Method} {c : Code} {b : Nat} {D : va_G} {dA : Nat → ClassId} {S0 : AS} {q : RS} (C : hp_C p l e R s m args below meth c b D dA S0 RX6 cX6_instance 5 7 42) (hT : ∀ x ∈ c.exceptionTable.toList, False) (hnm : meth.name = "instance") (hr : meth.sig.returnType = (some .int)) : ∀ (a0 : Option Nat) (x1 : Int) (x2 : Int) (t0 : Int) (u1 : Option Nat) (S : AS), inR x1 → inR x2 → inR t0 → f_X6_instance_57 a0 x1 x2 t0 u1 S = some q → ∀ ls : Array Slot, hp_L ls 5 [(0, rf b a0), (1, iv x1), (2, iv x2)] → hp_J p l e R s m args below meth c b D dA S0 (hp_Q below b D dA S0 1 q args s) S 57 ls [iv t0, rf b u1] := by
  have hst : l.stackTraces = false := C.2.2.2.2.2.2.2.2.2.2.1
  intro a0 x1 x2 t0 u1 S hx1 hx2 ht0 h ls hl
  unfold f_X6_instance_57 at h
  refine j_iconst C dX6_instance_57 ?_
  exact w_X6_instance_58 C hT hnm hr _ _ _ _ _ _ _ hx1 hx2 (by decide) ht0 h ls (hl.sub [0, 1, 2] rfl)
noncomputable def f_X6_instance_38 (a0 : Option Nat) (x1 : Int) (x2 : Int) (x3 : Int) (t0 : Int) (u1 : Option Nat) (S : AS) : Option RS :=
  if x3 = 0 then
    f_X6_instance_57 a0 x1 x2 t0 u1 S
  else
    (gR S a0 7 5).bind fun o1 =>
    (aI S o1 8 x1).bind fun v2 =>
    if v2 = 64 then
      f_X6_instance_58 a0 x1 x2 1 t0 u1 S
    else
      f_X6_instance_57 a0 x1 x2 t0 u1 S
set_option maxHeartbeats 4000000 in
set_option maxRecDepth 100000 in
theorem w_X6_instance_38 {p : Program} {l : Launch} {e : Env} {R : Room} {s : State} {m : MethodId} {args : Array Value} {below : List Frame} {meth : Method} {c : Code} {b : Nat} {D : va_G} {dA : Nat → ClassId} {S0 : AS} {q : RS} (C : hp_C p l e R s m args below meth c b D dA S0 RX6 cX6_instance 5 7 42) (hT : ∀ x ∈ c.exceptionTable.toList, False) (hnm : meth.name = "instance") (hr : meth.sig.returnType = (some .int)) : ∀ (a0 : Option Nat) (x1 : Int) (x2 : Int) (x3 : Int) (t0 : Int) (u1 : Option Nat) (S : AS), inR x1 → inR x2 → inR x3 → inR t0 → f_X6_instance_38 a0 x1 x2 x3 t0 u1 S = some q → ∀ ls : Array Slot, hp_L ls 5 [(0, rf b a0), (1, iv x1), (2, iv x2), (3, iv x3)] → hp_J p l e R s m args below meth c b D dA S0 (hp_Q below b D dA S0 1 q args s) S 38 ls [iv t0, rf b u1] := by
  have hst : l.stackTraces = false := C.2.2.2.2.2.2.2.2.2.2.1
  intro a0 x1 x2 x3 t0 u1 S hx1 hx2 hx3 ht0 h ls hl
  unfold f_X6_instance_38 at h
  refine j_iload_n C dX6_instance_38 rfl (hl.at 3 rfl) ?_
  refine j_if_eq (tgt := 57) C dX6_instance_39 (by decide) hx3 (fun b1 => ?_) (fun b1 => ?_)
  · rw [if_pos b1] at h
    exact w_X6_instance_57 C hT hnm hr _ _ _ _ _ _ hx1 hx2 ht0 h ls (hl.sub [0, 1, 2] rfl)
  · rw [if_neg b1] at h
    refine j_aload_n C dX6_instance_42 rfl (hl.at 0 rfl) ?_
    obtain ⟨o1, g_o1, h⟩ := bd h
    refine j_gR C dX6_instance_43 fl_RX6_20 rfl g_o1 ?_
    refine j_iload_n C dX6_instance_46 rfl (hl.at 1 rfl) ?_
    obtain ⟨v2, g_v2, h⟩ := bd h
    refine j_iald C dX6_instance_47 hx1 g_v2 (fun hv2 => ?_)
    refine j_bipush (x := 64) C dX6_instance_48 (by decide) ?_
    refine j_icmp_ne (tgt := 57) C dX6_instance_50 (by decide) hv2 (by decide) (fun b1 => ?_) (fun b1 => ?_)
    · rw [if_neg b1] at h
      exact w_X6_instance_57 C hT hnm hr _ _ _ _ _ _ hx1 hx2 ht0 h ls (hl.sub [0, 1, 2] rfl)
    · rw [if_pos (Decidable.byContradiction b1)] at h
      refine j_iconst C dX6_instance_53 ?_
      refine j_goto (tgt := 58) C dX6_instance_54 (by decide) ?_
      exact w_X6_instance_58 C hT hnm hr _ _ _ _ _ _ _ hx1 hx2 (by decide) ht0 h ls (hl.sub [0, 1, 2] rfl)
noncomputable def f_X6_instance_27 (a0 : Option Nat) (x1 : Int) (x2 : Int) (t0 : Int) (S : AS) : Option RS :=
  if t0 = 0 then
    f_X6_instance_38 a0 x1 x2 t0 1 a0 S
  else
    f_X6_instance_38 a0 x1 x2 t0 0 a0 S
set_option maxHeartbeats 4000000 in
set_option maxRecDepth 100000 in
theorem w_X6_instance_27 {p : Program} {l : Launch} {e : Env} {R : Room} {s : State} {m : MethodId} {args : Array Value} {below : List Frame} {meth : Method} {c : Code} {b : Nat} {D : va_G} {dA : Nat → ClassId} {S0 : AS} {q : RS} (C : hp_C p l e R s m args below meth c b D dA S0 RX6 cX6_instance 5 7 42) (hT : ∀ x ∈ c.exceptionTable.toList, False) (hnm : meth.name = "instance") (hr : meth.sig.returnType = (some .int)) : ∀ (a0 : Option Nat) (x1 : Int) (x2 : Int) (t0 : Int) (S : AS), inR x1 → inR x2 → inR t0 → f_X6_instance_27 a0 x1 x2 t0 S = some q → ∀ ls : Array Slot, hp_L ls 5 [(0, rf b a0), (1, iv x1), (2, iv x2)] → hp_J p l e R s m args below meth c b D dA S0 (hp_Q below b D dA S0 1 q args s) S 27 ls [iv t0] := by
  have hst : l.stackTraces = false := C.2.2.2.2.2.2.2.2.2.2.1
  intro a0 x1 x2 t0 S hx1 hx2 ht0 h ls hl
  unfold f_X6_instance_27 at h
  refine k_istore_n (lv' := [(3, iv t0), (0, rf b a0), (1, iv x1), (2, iv x2)]) C dX6_instance_27 rfl hl (by decide) rfl (fun ls hl => ?_)
  refine j_aload_n C dX6_instance_28 rfl (hl.at 1 rfl) ?_
  refine j_iload_n C dX6_instance_29 rfl (hl.at 0 rfl) ?_
  refine j_if_ne (tgt := 37) C dX6_instance_30 (by decide) ht0 (fun b1 => ?_) (fun b1 => ?_)
  · rw [if_neg b1] at h
    refine j_iconst C dX6_instance_37 ?_
    exact w_X6_instance_38 C hT hnm hr _ _ _ _ _ _ _ hx1 hx2 ht0 (by decide) h ls (hl.sub [1, 2, 3, 0] rfl)
  · rw [if_pos (Decidable.byContradiction b1)] at h
    refine j_iconst C dX6_instance_33 ?_
    refine j_goto (tgt := 38) C dX6_instance_34 (by decide) ?_
    exact w_X6_instance_38 C hT hnm hr _ _ _ _ _ _ _ hx1 hx2 ht0 (by decide) h ls (hl.sub [1, 2, 3, 0] rfl)
noncomputable def f_X6_instance_26 (a0 : Option Nat) (x1 : Int) (x2 : Int) (S : AS) : Option RS :=
  f_X6_instance_27 a0 x1 x2 0 S
set_option maxHeartbeats 4000000 in
set_option maxRecDepth 100000 in
theorem w_X6_instance_26 {p : Program} {l : Launch} {e : Env} {R : Room} {s : State} {m : MethodId} {args : Array Value} {below : List Frame} {meth : Method} {c : Code} {b : Nat} {D : va_G} {dA : Nat → ClassId} {S0 : AS} {q : RS} (C : hp_C p l e R s m args below meth c b D dA S0 RX6 cX6_instance 5 7 42) (hT : ∀ x ∈ c.exceptionTable.toList, False) (hnm : meth.name = "instance") (hr : meth.sig.returnType = (some .int)) : ∀ (a0 : Option Nat) (x1 : Int) (x2 : Int) (S : AS), inR x1 → inR x2 → f_X6_instance_26 a0 x1 x2 S = some q → ∀ ls : Array Slot, hp_L ls 5 [(0, rf b a0), (1, iv x1), (2, iv x2)] → hp_J p l e R s m args below meth c b D dA S0 (hp_Q below b D dA S0 1 q args s) S 26 ls [] := by
  have hst : l.stackTraces = false := C.2.2.2.2.2.2.2.2.2.2.1
  intro a0 x1 x2 S hx1 hx2 h ls hl
  unfold f_X6_instance_26 at h
  refine j_iconst C dX6_instance_26 ?_
  exact w_X6_instance_27 C hT hnm hr _ _ _ _ _ hx1 hx2 (by decide) h ls (hl.sub [0, 1, 2] rfl)
noncomputable def f_X6_instance (a0 : Option Nat) (x1 : Int) (x2 : Int) (S : AS) : Option RS :=
  (gI S a0 7 1).bind fun v1 =>
  cI (f_X6_isIn x1 v1 S) fun v3 S2 =>
  if v3 = 0 then
    f_X6_instance_26 a0 x1 x2 S2
  else
    (gI S2 a0 7 1).bind fun v4 =>
    cI (f_X6_isIn x2 v4 S2) fun v6 S5 =>
    if v6 = 0 then
      f_X6_instance_26 a0 x1 x2 S5
    else
      f_X6_instance_27 a0 x1 x2 1 S5
set_option maxHeartbeats 4000000 in
set_option maxRecDepth 100000 in
theorem m_X6_instance {l : Launch} {b : Nat} {D : va_G} {dA : Nat → ClassId} (hst : l.stackTraces = false) {a0 : Option Nat} {x1 : Int} {x2 : Int} {S : AS} {q : RS} (hx1 : inR x1) (hx2 : inR x2) (h : f_X6_instance a0 x1 x2 S = some q) : hp_M l b D dA yX6_instance cX6_instance 5 (some .int) 7 42 [rf b a0, iv x1, iv x2] S 1 q := by
  have hcat : ∀ v ∈ ([rf b a0, iv x1, iv x2] : List Value), v.category = 1 := (by intro v hv; simp only [List.mem_cons, List.not_mem_nil, or_false] at hv; rcases hv with rfl | rfl | rfl <;> first | exact cat_iv _ | exact cat_rf _ _)
  refine hp_ofJ (own := RX6) hst (by decide +kernel) rfl hcat (Nat.le_of_ble_eq_true rfl) ?_
  intro p e R s m args below meth c C hT hnm hr ls hl9
  have hl : hp_L ls 5 [(0, rf b a0), (1, iv x1), (2, iv x2)] := hp_L.of hl9 hcat
  unfold f_X6_instance at h
  refine j_iload_n C dX6_instance_0 rfl (hl.at 1 rfl) ?_
  refine j_aload_n C dX6_instance_1 rfl (hl.at 0 rfl) ?_
  obtain ⟨v1, g_v1, h⟩ := bd h
  refine j_gI C dX6_instance_2 fl_RX6_89 (Or.inl rfl) g_v1 (fun hv1 => ?_)
  rcases cI_some h with ⟨S2, v3, wv3, hc, h⟩ | ⟨hc, hne⟩
  · refine j_callI C (run_S (As := [iv x1, iv v1]) (rest := []) C (m_X6_isIn hst hx1 hv1 hc) cs_RX6_99 rfl hl.1.1 (by decide) (by decide) (by decide) dX6_instance_5) (fun hv3 => ?_)
    refine j_if_eq (tgt := 26) C dX6_instance_8 (by decide) hv3 (fun b1 => ?_) (fun b1 => ?_)
    · rw [if_pos b1] at h
      exact w_X6_instance_26 C hT hnm hr _ _ _ _ hx1 hx2 h ls (hl.sub [0, 1, 2] rfl)
    · rw [if_neg b1] at h
      refine j_iload_n C dX6_instance_11 rfl (hl.at 2 rfl) ?_
      refine j_aload_n C dX6_instance_12 rfl (hl.at 0 rfl) ?_
      obtain ⟨v4, g_v4, h⟩ := bd h
      refine j_gI C dX6_instance_13 fl_RX6_89 (Or.inl rfl) g_v4 (fun hv4 => ?_)
      rcases cI_some h with ⟨S5, v6, wv6, hc, h⟩ | ⟨hc, hne⟩
      · refine j_callI C (run_S (As := [iv x2, iv v4]) (rest := []) C (m_X6_isIn hst hx2 hv4 hc) cs_RX6_99 rfl hl.1.1 (by decide) (by decide) (by decide) dX6_instance_16) (fun hv6 => ?_)
        refine j_if_eq (tgt := 26) C dX6_instance_19 (by decide) hv6 (fun b1 => ?_) (fun b1 => ?_)
        · rw [if_pos b1] at h
          exact w_X6_instance_26 C hT hnm hr _ _ _ _ hx1 hx2 h ls (hl.sub [0, 1, 2] rfl)
        · rw [if_neg b1] at h
          refine j_iconst C dX6_instance_22 ?_
          refine j_goto (tgt := 27) C dX6_instance_23 (by decide) ?_
          exact w_X6_instance_27 C hT hnm hr _ _ _ _ _ hx1 hx2 (by decide) h ls (hl.sub [0, 1, 2] rfl)
      · exact j_thrown C hT (run_S (As := [iv x2, iv v4]) (rest := []) C (m_X6_isIn hst hx2 hv4 hc) cs_RX6_99 rfl hl.1.1 (by decide) (by decide) (by decide) dX6_instance_16) hne
  · exact j_thrown C hT (run_S (As := [iv x1, iv v1]) (rest := []) C (m_X6_isIn hst hx1 hv1 hc) cs_RX6_99 rfl hl.1.1 (by decide) (by decide) (by decide) dX6_instance_5) hne
noncomputable def f_X6_net_40 (a0 : Option Nat) (x1 : Int) (t0 : Int) (t1 : Int) (u2 : Option Nat) (S : AS) : Option RS :=
  gd (isK S u2 7) <|
  cI (f_X6_refused u2 t1 t0 S) fun v2 S1 =>
  if v2 = 0 then
    gd (isK S1 a0 7) <|
    cV (f_X6_change a0 x1 S1) fun S4 =>
    (gR S4 a0 7 7).bind fun o7 =>
    (aI S4 o7 8 x1).bind fun v8 =>
    (chk (v8 + 1)).bind fun z9 =>
    (sI S4 o7 8 x1 z9).bind fun S10 =>
    (gR S10 a0 7 7).bind fun o11 =>
    (aI S10 o11 8 x1).bind fun v12 =>
    (chk (v12 - 1)).bind fun z13 =>
    rI z13 S10
  else
    rI 0 S1
set_option maxHeartbeats 4000000 in
set_option maxRecDepth 100000 in
theorem w_X6_net_40 {p : Program} {l : Launch} {e : Env} {R : Room} {s : State} {m : MethodId} {args : Array Value} {below : List Frame} {meth : Method} {c : Code} {b : Nat} {D : va_G} {dA : Nat → ClassId} {S0 : AS} {q : RS} (C : hp_C p l e R s m args below meth c b D dA S0 RX6 cX6_net 3 7 39) (hT : ∀ x ∈ c.exceptionTable.toList, False) (hnm : meth.name = "net") (hr : meth.sig.returnType = (some .int)) : ∀ (a0 : Option Nat) (x1 : Int) (t0 : Int) (t1 : Int) (u2 : Option Nat) (S : AS), inR x1 → inR t0 → inR t1 → f_X6_net_40 a0 x1 t0 t1 u2 S = some q → ∀ ls : Array Slot, hp_L ls 3 [(0, rf b a0), (1, iv x1)] → hp_J p l e R s m args below meth c b D dA S0 (hp_Q below b D dA S0 1 q args s) S 40 ls [iv t0, iv t1, rf b u2] := by
  have hst : l.stackTraces = false := C.2.2.2.2.2.2.2.2.2.2.1
  intro a0 x1 t0 t1 u2 S hx1 ht0 ht1 h ls hl
  unfold f_X6_net_40 at h
  obtain ⟨c3, h⟩ := gd_some h
  rcases cI_some h with ⟨S1, v2, wv2, hc, h⟩ | ⟨hc, hne⟩
  · refine j_callI C (run_W (As := [iv t1, iv t0]) (rest := []) C (m_X6_refused hst ht1 ht0 hc) cv_RX6_107 (by decide) rfl c3 rfl hl (by decide) (by decide) (by decide) dX6_net_40) (fun hv2 => ?_)
    refine j_if_eq (tgt := 48) C dX6_net_43 (by decide) hv2 (fun b1 => ?_) (fun b1 => ?_)
    · rw [if_pos b1] at h
      refine j_aload_n C dX6_net_48 rfl (hl.at 0 rfl) ?_
      refine j_iload_n C dX6_net_49 rfl (hl.at 1 rfl) ?_
      obtain ⟨c6, h⟩ := gd_some h
      rcases cV_some h with ⟨S4, y5, hc, h⟩ | ⟨hc, hne⟩
      · refine j_callV C (run_W (As := [iv x1]) (rest := []) C (m_X6_change hst hx1 hc) cv_RX6_114 (by decide) rfl c6 rfl hl (by decide) (by decide) (by decide) dX6_net_50) ?_
        refine j_aload_n C dX6_net_53 rfl (hl.at 0 rfl) ?_
        obtain ⟨o7, g_o7, h⟩ := bd h
        refine j_gR C dX6_net_54 fl_RX6_26 rfl g_o7 ?_
        refine j_iload_n C dX6_net_57 rfl (hl.at 1 rfl) ?_
        refine j_dup2 C dX6_net_58 (cat_iv _) (cat_rf _ _) ?_
        obtain ⟨v8, g_v8, h⟩ := bd h
        refine j_iald C dX6_net_59 hx1 g_v8 (fun hv8 => ?_)
        refine j_iconst C dX6_net_60 ?_
        obtain ⟨z9, g_z9, h⟩ := bd h
        refine j_iadd C dX6_net_61 g_z9 (fun hz9 => ?_)
        obtain ⟨S10, g_S10, h⟩ := bd h
        refine j_iast C dX6_net_62 hx1 hz9 g_S10 ?_
        refine j_aload_n C dX6_net_63 rfl (hl.at 0 rfl) ?_
        obtain ⟨o11, g_o11, h⟩ := bd h
        refine j_gR C dX6_net_64 fl_RX6_26 rfl g_o11 ?_
        refine j_iload_n C dX6_net_67 rfl (hl.at 1 rfl) ?_
        obtain ⟨v12, g_v12, h⟩ := bd h
        refine j_iald C dX6_net_68 hx1 g_v12 (fun hv12 => ?_)
        refine j_iconst C dX6_net_69 ?_
        obtain ⟨z13, g_z13, h⟩ := bd h
        refine j_isub C dX6_net_70 g_z13 (fun hz13 => ?_)
        exact j_iret C dX6_net_71 hr hz13 h
      · exact j_thrown C hT (run_W (As := [iv x1]) (rest := []) C (m_X6_change hst hx1 hc) cv_RX6_114 (by decide) rfl c6 rfl hl (by decide) (by decide) (by decide) dX6_net_50) hne
    · rw [if_neg b1] at h
      refine j_iconst C dX6_net_46 ?_
      exact j_iret C dX6_net_47 hr (by decide) h
  · exact j_thrown C hT (run_W (As := [iv t1, iv t0]) (rest := []) C (m_X6_refused hst ht1 ht0 hc) cv_RX6_107 (by decide) rfl c3 rfl hl (by decide) (by decide) (by decide) dX6_net_40) hne
noncomputable def f_X6_net_39 (a0 : Option Nat) (x1 : Int) (t0 : Int) (u1 : Option Nat) (S : AS) : Option RS :=
  f_X6_net_40 a0 x1 0 t0 u1 S
set_option maxHeartbeats 4000000 in
set_option maxRecDepth 100000 in
theorem w_X6_net_39 {p : Program} {l : Launch} {e : Env} {R : Room} {s : State} {m : MethodId} {args : Array Value} {below : List Frame} {meth : Method} {c : Code} {b : Nat} {D : va_G} {dA : Nat → ClassId} {S0 : AS} {q : RS} (C : hp_C p l e R s m args below meth c b D dA S0 RX6 cX6_net 3 7 39) (hT : ∀ x ∈ c.exceptionTable.toList, False) (hnm : meth.name = "net") (hr : meth.sig.returnType = (some .int)) : ∀ (a0 : Option Nat) (x1 : Int) (t0 : Int) (u1 : Option Nat) (S : AS), inR x1 → inR t0 → f_X6_net_39 a0 x1 t0 u1 S = some q → ∀ ls : Array Slot, hp_L ls 3 [(0, rf b a0), (1, iv x1)] → hp_J p l e R s m args below meth c b D dA S0 (hp_Q below b D dA S0 1 q args s) S 39 ls [iv t0, rf b u1] := by
  have hst : l.stackTraces = false := C.2.2.2.2.2.2.2.2.2.2.1
  intro a0 x1 t0 u1 S hx1 ht0 h ls hl
  unfold f_X6_net_39 at h
  refine j_iconst C dX6_net_39 ?_
  exact w_X6_net_40 C hT hnm hr _ _ _ _ _ _ hx1 (by decide) ht0 h ls (hl.sub [0, 1] rfl)
noncomputable def f_X6_net_19 (a0 : Option Nat) (x1 : Int) (x2 : Int) (t0 : Int) (u1 : Option Nat) (S : AS) : Option RS :=
  if x2 = 0 then
    f_X6_net_39 a0 x1 t0 u1 S
  else
    (gR S a0 7 7).bind fun o1 =>
    (aI S o1 8 x1).bind fun v2 =>
    if v2 = 128 then
      f_X6_net_40 a0 x1 1 t0 u1 S
    else
      f_X6_net_39 a0 x1 t0 u1 S
set_option maxHeartbeats 4000000 in
set_option maxRecDepth 100000 in
theorem w_X6_net_19 {p : Program} {l : Launch} {e : Env} {R : Room} {s : State} {m : MethodId} {args : Array Value} {below : List Frame} {meth : Method} {c : Code} {b : Nat} {D : va_G} {dA : Nat → ClassId} {S0 : AS} {q : RS} (C : hp_C p l e R s m args below meth c b D dA S0 RX6 cX6_net 3 7 39) (hT : ∀ x ∈ c.exceptionTable.toList, False) (hnm : meth.name = "net") (hr : meth.sig.returnType = (some .int)) : ∀ (a0 : Option Nat) (x1 : Int) (x2 : Int) (t0 : Int) (u1 : Option Nat) (S : AS), inR x1 → inR x2 → inR t0 → f_X6_net_19 a0 x1 x2 t0 u1 S = some q → ∀ ls : Array Slot, hp_L ls 3 [(0, rf b a0), (1, iv x1), (2, iv x2)] → hp_J p l e R s m args below meth c b D dA S0 (hp_Q below b D dA S0 1 q args s) S 19 ls [iv t0, rf b u1] := by
  have hst : l.stackTraces = false := C.2.2.2.2.2.2.2.2.2.2.1
  intro a0 x1 x2 t0 u1 S hx1 hx2 ht0 h ls hl
  unfold f_X6_net_19 at h
  refine j_iload_n C dX6_net_19 rfl (hl.at 2 rfl) ?_
  refine j_if_eq (tgt := 39) C dX6_net_20 (by decide) hx2 (fun b1 => ?_) (fun b1 => ?_)
  · rw [if_pos b1] at h
    exact w_X6_net_39 C hT hnm hr _ _ _ _ _ hx1 ht0 h ls (hl.sub [0, 1] rfl)
  · rw [if_neg b1] at h
    refine j_aload_n C dX6_net_23 rfl (hl.at 0 rfl) ?_
    obtain ⟨o1, g_o1, h⟩ := bd h
    refine j_gR C dX6_net_24 fl_RX6_26 rfl g_o1 ?_
    refine j_iload_n C dX6_net_27 rfl (hl.at 1 rfl) ?_
    obtain ⟨v2, g_v2, h⟩ := bd h
    refine j_iald C dX6_net_28 hx1 g_v2 (fun hv2 => ?_)
    refine j_sipush (x := 128) C dX6_net_29 (by decide) ?_
    refine j_icmp_ne (tgt := 39) C dX6_net_32 (by decide) hv2 (by decide) (fun b1 => ?_) (fun b1 => ?_)
    · rw [if_neg b1] at h
      exact w_X6_net_39 C hT hnm hr _ _ _ _ _ hx1 ht0 h ls (hl.sub [0, 1] rfl)
    · rw [if_pos (Decidable.byContradiction b1)] at h
      refine j_iconst C dX6_net_35 ?_
      refine j_goto (tgt := 40) C dX6_net_36 (by decide) ?_
      exact w_X6_net_40 C hT hnm hr _ _ _ _ _ _ hx1 (by decide) ht0 h ls (hl.sub [0, 1] rfl)
noncomputable def f_X6_net (a0 : Option Nat) (x1 : Int) (S : AS) : Option RS :=
  (gI S a0 7 1).bind fun v1 =>
  cI (f_X6_isIn x1 v1 S) fun v3 S2 =>
  if v3 = 0 then
    f_X6_net_19 a0 x1 v3 1 a0 S2
  else
    f_X6_net_19 a0 x1 v3 0 a0 S2
set_option maxHeartbeats 4000000 in
set_option maxRecDepth 100000 in
theorem m_X6_net {l : Launch} {b : Nat} {D : va_G} {dA : Nat → ClassId} (hst : l.stackTraces = false) {a0 : Option Nat} {x1 : Int} {S : AS} {q : RS} (hx1 : inR x1) (h : f_X6_net a0 x1 S = some q) : hp_M l b D dA yX6_net cX6_net 3 (some .int) 7 39 [rf b a0, iv x1] S 1 q := by
  have hcat : ∀ v ∈ ([rf b a0, iv x1] : List Value), v.category = 1 := (by intro v hv; simp only [List.mem_cons, List.not_mem_nil, or_false] at hv; rcases hv with rfl | rfl <;> first | exact cat_iv _ | exact cat_rf _ _)
  refine hp_ofJ (own := RX6) hst (by decide +kernel) rfl hcat (Nat.le_of_ble_eq_true rfl) ?_
  intro p e R s m args below meth c C hT hnm hr ls hl9
  have hl : hp_L ls 3 [(0, rf b a0), (1, iv x1)] := hp_L.of hl9 hcat
  unfold f_X6_net at h
  refine j_iload_n C dX6_net_0 rfl (hl.at 1 rfl) ?_
  refine j_aload_n C dX6_net_1 rfl (hl.at 0 rfl) ?_
  obtain ⟨v1, g_v1, h⟩ := bd h
  refine j_gI C dX6_net_2 fl_RX6_89 (Or.inl rfl) g_v1 (fun hv1 => ?_)
  rcases cI_some h with ⟨S2, v3, wv3, hc, h⟩ | ⟨hc, hne⟩
  · refine j_callI C (run_S (As := [iv x1, iv v1]) (rest := []) C (m_X6_isIn hst hx1 hv1 hc) cs_RX6_99 rfl hl.1.1 (by decide) (by decide) (by decide) dX6_net_5) (fun hv3 => ?_)
    refine k_istore_n (lv' := [(2, iv v3), (0, rf b a0), (1, iv x1)]) C dX6_net_8 rfl hl (by decide) rfl (fun ls hl => ?_)
    refine j_aload_n C dX6_net_9 rfl (hl.at 1 rfl) ?_
    refine j_iload_n C dX6_net_10 rfl (hl.at 0 rfl) ?_
    refine j_if_ne (tgt := 18) C dX6_net_11 (by decide) hv3 (fun b1 => ?_) (fun b1 => ?_)
    · rw [if_neg b1] at h
      refine j_iconst C dX6_net_18 ?_
      exact w_X6_net_19 C hT hnm hr _ _ _ _ _ _ hx1 hv3 (by decide) h ls (hl.sub [1, 2, 0] rfl)
    · rw [if_pos (Decidable.byContradiction b1)] at h
      refine j_iconst C dX6_net_14 ?_
      refine j_goto (tgt := 19) C dX6_net_15 (by decide) ?_
      exact w_X6_net_19 C hT hnm hr _ _ _ _ _ _ hx1 hv3 (by decide) h ls (hl.sub [1, 2, 0] rfl)
  · exact j_thrown C hT (run_S (As := [iv x1, iv v1]) (rest := []) C (m_X6_isIn hst hx1 hv1 hc) cs_RX6_99 rfl hl.1.1 (by decide) (by decide) (by decide) dX6_net_5) hne
noncomputable def f_X6_isPin_51 (a0 : Option Nat) (x3 : Int) (t0 : Int) (S : AS) : Option RS :=
  gd (isK S a0 7) <|
  cI (f_X6_ownPins a0 t0 S) fun v2 S1 =>
  cI (f_X6_isIn x3 v2 S1) fun v5 S4 =>
  rZ v5 S4
set_option maxHeartbeats 4000000 in
set_option maxRecDepth 100000 in
theorem w_X6_isPin_51 {p : Program} {l : Launch} {e : Env} {R : Room} {s : State} {m : MethodId} {args : Array Value} {below : List Frame} {meth : Method} {c : Code} {b : Nat} {D : va_G} {dA : Nat → ClassId} {S0 : AS} {q : RS} (C : hp_C p l e R s m args below meth c b D dA S0 RX6 cX6_isPin 5 7 39) (hT : ∀ x ∈ c.exceptionTable.toList, False) (hnm : meth.name = "isPin") (hr : meth.sig.returnType = (some .boolean)) : ∀ (a0 : Option Nat) (x3 : Int) (t0 : Int) (S : AS), inR x3 → inR t0 → f_X6_isPin_51 a0 x3 t0 S = some q → ∀ ls : Array Slot, hp_L ls 5 [(0, rf b a0), (3, iv x3)] → hp_J p l e R s m args below meth c b D dA S0 (hp_Q below b D dA S0 1 q args s) S 51 ls [iv t0] := by
  have hst : l.stackTraces = false := C.2.2.2.2.2.2.2.2.2.2.1
  intro a0 x3 t0 S hx3 ht0 h ls hl
  unfold f_X6_isPin_51 at h
  refine k_istore (lv' := [(4, iv t0), (0, rf b a0), (3, iv x3)]) C dX6_isPin_51 hl (by decide) rfl (fun ls hl => ?_)
  refine j_iload_n C dX6_isPin_53 rfl (hl.at 2 rfl) ?_
  refine j_aload_n C dX6_isPin_54 rfl (hl.at 1 rfl) ?_
  refine j_iload C dX6_isPin_55 (hl.at 0 rfl) ?_
  obtain ⟨c3, h⟩ := gd_some h
  rcases cI_some h with ⟨S1, v2, wv2, hc, h⟩ | ⟨hc, hne⟩
  · refine j_callI C (run_W (As := [iv t0]) (rest := [iv x3]) C (m_X6_ownPins hst ht0 hc) cv_RX6_117 (by decide) rfl c3 rfl hl (by simp [cat_iv, cat_rf]) (by decide) (by decide) dX6_isPin_57) (fun hv2 => ?_)
    rcases cI_some h with ⟨S4, v5, wv5, hc, h⟩ | ⟨hc, hne⟩
    · refine j_callI C (run_S (As := [iv x3, iv v2]) (rest := []) C (m_X6_isIn hst hx3 hv2 hc) cs_RX6_99 rfl hl.1.1 (by decide) (by decide) (by decide) dX6_isPin_60) (fun hv5 => ?_)
      exact j_zret C dX6_isPin_63 hr h
    · exact j_thrown C hT (run_S (As := [iv x3, iv v2]) (rest := []) C (m_X6_isIn hst hx3 hv2 hc) cs_RX6_99 rfl hl.1.1 (by decide) (by decide) (by decide) dX6_isPin_60) hne
  · exact j_thrown C hT (run_W (As := [iv t0]) (rest := [iv x3]) C (m_X6_ownPins hst ht0 hc) cv_RX6_117 (by decide) rfl c3 rfl hl (by simp [cat_iv, cat_rf]) (by decide) (by decide) dX6_isPin_57) hne
noncomputable def f_X6_isPin_31 (a0 : Option Nat) (x1 : Int) (x2 : Int) (x3 : Int) (S : AS) : Option RS :=
  if x2 = (-1) then
    f_X6_isPin_51 a0 x3 x1 S
  else
    (gR S a0 7 6).bind fun o1 =>
    (chk (64 * x1)).bind fun z2 =>
    (chk (z2 + x2)).bind fun z3 =>
    (aI S o1 8 z3).bind fun v4 =>
    f_X6_isPin_51 a0 x3 v4 S
set_option maxHeartbeats 4000000 in
set_option maxRecDepth 100000 in
theorem w_X6_isPin_31 {p : Program} {l : Launch} {e : Env} {R : Room} {s : State} {m : MethodId} {args : Array Value} {below : List Frame} {meth : Method} {c : Code} {b : Nat} {D : va_G} {dA : Nat → ClassId} {S0 : AS} {q : RS} (C : hp_C p l e R s m args below meth c b D dA S0 RX6 cX6_isPin 5 7 39) (hT : ∀ x ∈ c.exceptionTable.toList, False) (hnm : meth.name = "isPin") (hr : meth.sig.returnType = (some .boolean)) : ∀ (a0 : Option Nat) (x1 : Int) (x2 : Int) (x3 : Int) (S : AS), inR x1 → inR x2 → inR x3 → f_X6_isPin_31 a0 x1 x2 x3 S = some q → ∀ ls : Array Slot, hp_L ls 5 [(0, rf b a0), (1, iv x1), (2, iv x2), (3, iv x3)] → hp_J p l e R s m args below meth c b D dA S0 (hp_Q below b D dA S0 1 q args s) S 31 ls [] := by
  have hst : l.stackTraces = false := C.2.2.2.2.2.2.2.2.2.2.1
  intro a0 x1 x2 x3 S hx1 hx2 hx3 h ls hl
  unfold f_X6_isPin_31 at h
  refine j_iload_n C dX6_isPin_31 rfl (hl.at 2 rfl) ?_
  refine j_iconst C dX6_isPin_32 ?_
  refine j_icmp_ne (tgt := 40) C dX6_isPin_33 (by decide) hx2 (by decide) (fun b1 => ?_) (fun b1 => ?_)
  · rw [if_neg b1] at h
    refine j_aload_n C dX6_isPin_40 rfl (hl.at 0 rfl) ?_
    obtain ⟨o1, g_o1, h⟩ := bd h
    refine j_gR C dX6_isPin_41 fl_RX6_23 rfl g_o1 ?_
    refine j_bipush (x := 64) C dX6_isPin_44 (by decide) ?_
    refine j_iload_n C dX6_isPin_46 rfl (hl.at 1 rfl) ?_
    obtain ⟨z2, g_z2, h⟩ := bd h
    refine j_imul C dX6_isPin_47 g_z2 (fun hz2 => ?_)
    refine j_iload_n C dX6_isPin_48 rfl (hl.at 2 rfl) ?_
    obtain ⟨z3, g_z3, h⟩ := bd h
    refine j_iadd C dX6_isPin_49 g_z3 (fun hz3 => ?_)
    obtain ⟨v4, g_v4, h⟩ := bd h
    refine j_iald C dX6_isPin_50 hz3 g_v4 (fun hv4 => ?_)
    exact w_X6_isPin_51 C hT hnm hr _ _ _ _ hx3 hv4 h ls (hl.sub [0, 3] rfl)
  · rw [if_pos (Decidable.byContradiction b1)] at h
    refine j_iload_n C dX6_isPin_36 rfl (hl.at 1 rfl) ?_
    refine j_goto (tgt := 51) C dX6_isPin_37 (by decide) ?_
    exact w_X6_isPin_51 C hT hnm hr _ _ _ _ hx3 hx1 h ls (hl.sub [0, 3] rfl)
noncomputable def f_X6_isPin (a0 : Option Nat) (x1 : Int) (x2 : Int) (x3 : Int) (S : AS) : Option RS :=
  (gI S a0 7 1).bind fun v1 =>
  cI (f_X6_isIn x1 v1 S) fun v3 S2 =>
  if v3 = 0 then
    rZ 0 S2
  else
    if x2 = (-1) then
      f_X6_isPin_31 a0 x1 x2 x3 S2
    else
      (gR S2 a0 7 5).bind fun o4 =>
      (aI S2 o4 8 x1).bind fun v5 =>
      cI (f_X6_isIn x2 v5 S2) fun v7 S6 =>
      if v7 = 0 then
        rZ 0 S6
      else
        f_X6_isPin_31 a0 x1 x2 x3 S6
set_option maxHeartbeats 4000000 in
set_option maxRecDepth 100000 in
theorem m_X6_isPin {l : Launch} {b : Nat} {D : va_G} {dA : Nat → ClassId} (hst : l.stackTraces = false) {a0 : Option Nat} {x1 : Int} {x2 : Int} {x3 : Int} {S : AS} {q : RS} (hx1 : inR x1) (hx2 : inR x2) (hx3 : inR x3) (h : f_X6_isPin a0 x1 x2 x3 S = some q) : hp_M l b D dA yX6_isPin cX6_isPin 5 (some .boolean) 7 39 [rf b a0, iv x1, iv x2, iv x3] S 1 q := by
  have hcat : ∀ v ∈ ([rf b a0, iv x1, iv x2, iv x3] : List Value), v.category = 1 := (by intro v hv; simp only [List.mem_cons, List.not_mem_nil, or_false] at hv; rcases hv with rfl | rfl | rfl | rfl <;> first | exact cat_iv _ | exact cat_rf _ _)
  refine hp_ofJ (own := RX6) hst (by decide +kernel) rfl hcat (Nat.le_of_ble_eq_true rfl) ?_
  intro p e R s m args below meth c C hT hnm hr ls hl9
  have hl : hp_L ls 5 [(0, rf b a0), (1, iv x1), (2, iv x2), (3, iv x3)] := hp_L.of hl9 hcat
  unfold f_X6_isPin at h
  refine j_iload_n C dX6_isPin_0 rfl (hl.at 1 rfl) ?_
  refine j_aload_n C dX6_isPin_1 rfl (hl.at 0 rfl) ?_
  obtain ⟨v1, g_v1, h⟩ := bd h
  refine j_gI C dX6_isPin_2 fl_RX6_89 (Or.inl rfl) g_v1 (fun hv1 => ?_)
  rcases cI_some h with ⟨S2, v3, wv3, hc, h⟩ | ⟨hc, hne⟩
  · refine j_callI C (run_S (As := [iv x1, iv v1]) (rest := []) C (m_X6_isIn hst hx1 hv1 hc) cs_RX6_99 rfl hl.1.1 (by decide) (by decide) (by decide) dX6_isPin_5) (fun hv3 => ?_)
    refine j_if_eq (tgt := 29) C dX6_isPin_8 (by decide) hv3 (fun b1 => ?_) (fun b1 => ?_)
    · rw [if_pos b1] at h
      refine j_iconst C dX6_isPin_29 ?_
      exact j_zret C dX6_isPin_30 hr h
    · rw [if_neg b1] at h
      refine j_iload_n C dX6_isPin_11 rfl (hl.at 2 rfl) ?_
      refine j_iconst C dX6_isPin_12 ?_
      refine j_icmp_eq (tgt := 31) C dX6_isPin_13 (by decide) hx2 (by decide) (fun b1 => ?_) (fun b1 => ?_)
      · rw [if_pos b1] at h
        exact w_X6_isPin_31 C hT hnm hr _ _ _ _ _ hx1 hx2 hx3 h ls (hl.sub [0, 1, 2, 3] rfl)
      · rw [if_neg b1] at h
        refine j_iload_n C dX6_isPin_16 rfl (hl.at 2 rfl) ?_
        refine j_aload_n C dX6_isPin_17 rfl (hl.at 0 rfl) ?_
        obtain ⟨o4, g_o4, h⟩ := bd h
        refine j_gR C dX6_isPin_18 fl_RX6_20 rfl g_o4 ?_
        refine j_iload_n C dX6_isPin_21 rfl (hl.at 1 rfl) ?_
        obtain ⟨v5, g_v5, h⟩ := bd h
        refine j_iald C dX6_isPin_22 hx1 g_v5 (fun hv5 => ?_)
        rcases cI_some h with ⟨S6, v7, wv7, hc, h⟩ | ⟨hc, hne⟩
        · refine j_callI C (run_S (As := [iv x2, iv v5]) (rest := []) C (m_X6_isIn hst hx2 hv5 hc) cs_RX6_99 rfl hl.1.1 (by decide) (by decide) (by decide) dX6_isPin_23) (fun hv7 => ?_)
          refine j_if_ne (tgt := 31) C dX6_isPin_26 (by decide) hv7 (fun b1 => ?_) (fun b1 => ?_)
          · rw [if_neg b1] at h
            exact w_X6_isPin_31 C hT hnm hr _ _ _ _ _ hx1 hx2 hx3 h ls (hl.sub [0, 1, 2, 3] rfl)
          · rw [if_pos (Decidable.byContradiction b1)] at h
            refine j_iconst C dX6_isPin_29 ?_
            exact j_zret C dX6_isPin_30 hr h
        · exact j_thrown C hT (run_S (As := [iv x2, iv v5]) (rest := []) C (m_X6_isIn hst hx2 hv5 hc) cs_RX6_99 rfl hl.1.1 (by decide) (by decide) (by decide) dX6_isPin_23) hne
  · exact j_thrown C hT (run_S (As := [iv x1, iv v1]) (rest := []) C (m_X6_isIn hst hx1 hv1 hc) cs_RX6_99 rfl hl.1.1 (by decide) (by decide) (by decide) dX6_isPin_5) hne
noncomputable def f_X6_at (x0 : Int) (x1 : Int) (x2 : Int) (S : AS) : Option RS :=
  (chk (8320 * x0)).bind fun z1 =>
  if x1 = (-1) then
    (chk (128 * 64)).bind fun z5 =>
    (chk (z1 + z5)).bind fun z6 =>
    (chk (z6 + x2)).bind fun z7 =>
    rI z7 S
  else
    (chk (128 * x1)).bind fun z2 =>
    (chk (z1 + z2)).bind fun z3 =>
    (chk (z3 + x2)).bind fun z4 =>
    rI z4 S
set_option maxHeartbeats 4000000 in
set_option maxRecDepth 100000 in
theorem m_X6_at {l : Launch} {b : Nat} {D : va_G} {dA : Nat → ClassId} (hst : l.stackTraces = false) {x0 : Int} {x1 : Int} {x2 : Int} {S : AS} {q : RS} (hx0 : inR x0) (hx1 : inR x1) (hx2 : inR x2) (h : f_X6_at x0 x1 x2 S = some q) : hp_M l b D dA yX6_at cX6_at 3 (some .int) 6 16 [iv x0, iv x1, iv x2] S 1 q := by
  have hcat : ∀ v ∈ ([iv x0, iv x1, iv x2] : List Value), v.category = 1 := (by intro v hv; simp only [List.mem_cons, List.not_mem_nil, or_false] at hv; rcases hv with rfl | rfl | rfl <;> first | exact cat_iv _ | exact cat_rf _ _)
  refine hp_ofJ (own := RX6) hst (by decide +kernel) rfl hcat (Nat.le_of_ble_eq_true rfl) ?_
  intro p e R s m args below meth c C hT hnm hr ls hl9
  have hl : hp_L ls 3 [(0, iv x0), (1, iv x1), (2, iv x2)] := hp_L.of hl9 hcat
  unfold f_X6_at at h
  refine j_sipush (x := 8320) C dX6_at_0 (by decide) ?_
  refine j_iload_n C dX6_at_3 rfl (hl.at 0 rfl) ?_
  obtain ⟨z1, g_z1, h⟩ := bd h
  refine j_imul C dX6_at_4 g_z1 (fun hz1 => ?_)
  refine j_sipush (x := 128) C dX6_at_5 (by decide) ?_
  refine j_iload_n C dX6_at_8 rfl (hl.at 1 rfl) ?_
  refine j_iconst C dX6_at_9 ?_
  refine j_icmp_ne (tgt := 18) C dX6_at_10 (by decide) hx1 (by decide) (fun b1 => ?_) (fun b1 => ?_)
  · rw [if_neg b1] at h
    refine j_iload_n C dX6_at_18 rfl (hl.at 1 rfl) ?_
    obtain ⟨z2, g_z2, h⟩ := bd h
    refine j_imul C dX6_at_19 g_z2 (fun hz2 => ?_)
    obtain ⟨z3, g_z3, h⟩ := bd h
    refine j_iadd C dX6_at_20 g_z3 (fun hz3 => ?_)
    refine j_iload_n C dX6_at_21 rfl (hl.at 2 rfl) ?_
    obtain ⟨z4, g_z4, h⟩ := bd h
    refine j_iadd C dX6_at_22 g_z4 (fun hz4 => ?_)
    exact j_iret C dX6_at_23 hr hz4 h
  · rw [if_pos (Decidable.byContradiction b1)] at h
    refine j_bipush (x := 64) C dX6_at_13 (by decide) ?_
    refine j_goto (tgt := 19) C dX6_at_15 (by decide) ?_
    obtain ⟨z5, g_z5, h⟩ := bd h
    refine j_imul C dX6_at_19 g_z5 (fun hz5 => ?_)
    obtain ⟨z6, g_z6, h⟩ := bd h
    refine j_iadd C dX6_at_20 g_z6 (fun hz6 => ?_)
    refine j_iload_n C dX6_at_21 rfl (hl.at 2 rfl) ?_
    obtain ⟨z7, g_z7, h⟩ := bd h
    refine j_iadd C dX6_at_22 g_z7 (fun hz7 => ?_)
    exact j_iret C dX6_at_23 hr hz7 h
noncomputable def f_X6_join_30 (a0 : Option Nat) (x1 : Int) (x2 : Int) (x3 : Int) (x4 : Int) (t0 : Int) (u1 : Option Nat) (S : AS) : Option RS :=
  gd (isK S u1 7) <|
  cI (f_X6_refused u1 t0 0 S) fun v2 S1 =>
  if v2 = 0 then
    cI (f_X6_at x1 x3 x4 S1) fun v5 S4 =>
    (gR S4 a0 7 10).bind fun o6 =>
    (aI S4 o6 8 v5).bind fun v7 =>
    if v7 = x2 then
      rZ 0 S4
    else
      gd (isK S4 a0 7) <|
      cV (f_X6_change a0 x1 S4) fun S8 =>
      (gR S8 a0 7 10).bind fun o11 =>
      (sI S8 o11 8 v5 x2).bind fun S12 =>
      rZ 1 S12
  else
    rZ 0 S1
set_option maxHeartbeats 4000000 in
set_option maxRecDepth 100000 in
theorem w_X6_join_30 {p : Program} {l : Launch} {e : Env} {R : Room} {s : State} {m : MethodId} {args : Array Value} {below : List Frame} {meth : Method} {c : Code} {b : Nat} {D : va_G} {dA : Nat → ClassId} {S0 : AS} {q : RS} (C : hp_C p l e R s m args below meth c b D dA S0 RX6 cX6_join 6 8 63) (hT : ∀ x ∈ c.exceptionTable.toList, False) (hnm : meth.name = "join") (hr : meth.sig.returnType = (some .boolean)) : ∀ (a0 : Option Nat) (x1 : Int) (x2 : Int) (x3 : Int) (x4 : Int) (t0 : Int) (u1 : Option Nat) (S : AS), inR x1 → inR x2 → inR x3 → inR x4 → inR t0 → f_X6_join_30 a0 x1 x2 x3 x4 t0 u1 S = some q → ∀ ls : Array Slot, hp_L ls 6 [(0, rf b a0), (1, iv x1), (2, iv x2), (3, iv x3), (4, iv x4)] → hp_J p l e R s m args below meth c b D dA S0 (hp_Q below b D dA S0 1 q args s) S 30 ls [iv t0, rf b u1] := by
  have hst : l.stackTraces = false := C.2.2.2.2.2.2.2.2.2.2.1
  intro a0 x1 x2 x3 x4 t0 u1 S hx1 hx2 hx3 hx4 ht0 h ls hl
  unfold f_X6_join_30 at h
  refine j_iconst C dX6_join_30 ?_
  obtain ⟨c3, h⟩ := gd_some h
  rcases cI_some h with ⟨S1, v2, wv2, hc, h⟩ | ⟨hc, hne⟩
  · refine j_callI C (run_W (As := [iv t0, iv 0]) (rest := []) C (m_X6_refused hst ht0 (by decide) hc) cv_RX6_107 (by decide) rfl c3 rfl hl (by decide) (by decide) (by decide) dX6_join_31) (fun hv2 => ?_)
    refine j_if_eq (tgt := 39) C dX6_join_34 (by decide) hv2 (fun b1 => ?_) (fun b1 => ?_)
    · rw [if_pos b1] at h
      refine j_iload_n C dX6_join_39 rfl (hl.at 1 rfl) ?_
      refine j_iload_n C dX6_join_40 rfl (hl.at 3 rfl) ?_
      refine j_iload C dX6_join_41 (hl.at 4 rfl) ?_
      rcases cI_some h with ⟨S4, v5, wv5, hc, h⟩ | ⟨hc, hne⟩
      · refine j_callI C (run_S (As := [iv x1, iv x3, iv x4]) (rest := []) C (m_X6_at hst hx1 hx3 hx4 hc) cs_RX6_125 rfl hl.1.1 (by decide) (by decide) (by decide) dX6_join_43) (fun hv5 => ?_)
        refine k_istore (lv' := [(5, iv v5), (0, rf b a0), (1, iv x1), (2, iv x2), (3, iv x3), (4, iv x4)]) C dX6_join_46 hl (by decide) rfl (fun ls hl => ?_)
        refine j_aload_n C dX6_join_48 rfl (hl.at 1 rfl) ?_
        obtain ⟨o6, g_o6, h⟩ := bd h
        refine j_gR C dX6_join_49 fl_RX6_33 rfl g_o6 ?_
        refine j_iload C dX6_join_52 (hl.at 0 rfl) ?_
        obtain ⟨v7, g_v7, h⟩ := bd h
        refine j_iald C dX6_join_54 hv5 g_v7 (fun hv7 => ?_)
        refine j_iload_n C dX6_join_55 rfl (hl.at 3 rfl) ?_
        refine j_icmp_ne (tgt := 61) C dX6_join_56 (by decide) hv7 hx2 (fun b1 => ?_) (fun b1 => ?_)
        · rw [if_neg b1] at h
          refine j_aload_n C dX6_join_61 rfl (hl.at 1 rfl) ?_
          refine j_iload_n C dX6_join_62 rfl (hl.at 2 rfl) ?_
          obtain ⟨c10, h⟩ := gd_some h
          rcases cV_some h with ⟨S8, y9, hc, h⟩ | ⟨hc, hne⟩
          · refine j_callV C (run_W (As := [iv x1]) (rest := []) C (m_X6_change hst hx1 hc) cv_RX6_114 (by decide) rfl c10 rfl hl (by decide) (by decide) (by decide) dX6_join_63) ?_
            refine j_aload_n C dX6_join_66 rfl (hl.at 1 rfl) ?_
            obtain ⟨o11, g_o11, h⟩ := bd h
            refine j_gR C dX6_join_67 fl_RX6_33 rfl g_o11 ?_
            refine j_iload C dX6_join_70 (hl.at 0 rfl) ?_
            refine j_iload_n C dX6_join_72 rfl (hl.at 3 rfl) ?_
            obtain ⟨S12, g_S12, h⟩ := bd h
            refine j_iast C dX6_join_73 hv5 hx2 g_S12 ?_
            refine j_iconst C dX6_join_74 ?_
            exact j_zret C dX6_join_75 hr h
          · exact j_thrown C hT (run_W (As := [iv x1]) (rest := []) C (m_X6_change hst hx1 hc) cv_RX6_114 (by decide) rfl c10 rfl hl (by decide) (by decide) (by decide) dX6_join_63) hne
        · rw [if_pos (Decidable.byContradiction b1)] at h
          refine j_iconst C dX6_join_59 ?_
          exact j_zret C dX6_join_60 hr h
      · exact j_thrown C hT (run_S (As := [iv x1, iv x3, iv x4]) (rest := []) C (m_X6_at hst hx1 hx3 hx4 hc) cs_RX6_125 rfl hl.1.1 (by decide) (by decide) (by decide) dX6_join_43) hne
    · rw [if_neg b1] at h
      refine j_iconst C dX6_join_37 ?_
      exact j_zret C dX6_join_38 hr h
  · exact j_thrown C hT (run_W (As := [iv t0, iv 0]) (rest := []) C (m_X6_refused hst ht0 (by decide) hc) cv_RX6_107 (by decide) rfl c3 rfl hl (by decide) (by decide) (by decide) dX6_join_31) hne
noncomputable def f_X6_join_25 (a0 : Option Nat) (x1 : Int) (x2 : Int) (x3 : Int) (x4 : Int) (u0 : Option Nat) (S : AS) : Option RS :=
  f_X6_join_30 a0 x1 x2 x3 x4 1 u0 S
set_option maxHeartbeats 4000000 in
set_option maxRecDepth 100000 in
theorem w_X6_join_25 {p : Program} {l : Launch} {e : Env} {R : Room} {s : State} {m : MethodId} {args : Array Value} {below : List Frame} {meth : Method} {c : Code} {b : Nat} {D : va_G} {dA : Nat → ClassId} {S0 : AS} {q : RS} (C : hp_C p l e R s m args below meth c b D dA S0 RX6 cX6_join 6 8 63) (hT : ∀ x ∈ c.exceptionTable.toList, False) (hnm : meth.name = "join") (hr : meth.sig.returnType = (some .boolean)) : ∀ (a0 : Option Nat) (x1 : Int) (x2 : Int) (x3 : Int) (x4 : Int) (u0 : Option Nat) (S : AS), inR x1 → inR x2 → inR x3 → inR x4 → f_X6_join_25 a0 x1 x2 x3 x4 u0 S = some q → ∀ ls : Array Slot, hp_L ls 6 [(0, rf b a0), (1, iv x1), (2, iv x2), (3, iv x3), (4, iv x4)] → hp_J p l e R s m args below meth c b D dA S0 (hp_Q below b D dA S0 1 q args s) S 25 ls [rf b u0] := by
  have hst : l.stackTraces = false := C.2.2.2.2.2.2.2.2.2.2.1
  intro a0 x1 x2 x3 x4 u0 S hx1 hx2 hx3 hx4 h ls hl
  unfold f_X6_join_25 at h
  refine j_iconst C dX6_join_25 ?_
  refine j_goto (tgt := 30) C dX6_join_26 (by decide) ?_
  exact w_X6_join_30 C hT hnm hr _ _ _ _ _ _ _ _ hx1 hx2 hx3 hx4 (by decide) h ls (hl.sub [0, 1, 2, 3, 4] rfl)
noncomputable def f_X6_join (a0 : Option Nat) (x1 : Int) (x2 : Int) (x3 : Int) (x4 : Int) (S : AS) : Option RS :=
  gd (isK S a0 7) <|
  cI (f_X6_isPin a0 x1 x3 x4 S) fun v2 S1 =>
  if v2 = 0 then
    f_X6_join_25 a0 x1 x2 x3 x4 a0 S1
  else
    (gR S1 a0 7 7).bind fun o4 =>
    (aI S1 o4 8 x1).bind fun v5 =>
    cI (f_X6_isIn x2 v5 S1) fun v7 S6 =>
    if v7 = 0 then
      f_X6_join_25 a0 x1 x2 x3 x4 a0 S6
    else
      f_X6_join_30 a0 x1 x2 x3 x4 0 a0 S6
set_option maxHeartbeats 4000000 in
set_option maxRecDepth 100000 in
theorem m_X6_join {l : Launch} {b : Nat} {D : va_G} {dA : Nat → ClassId} (hst : l.stackTraces = false) {a0 : Option Nat} {x1 : Int} {x2 : Int} {x3 : Int} {x4 : Int} {S : AS} {q : RS} (hx1 : inR x1) (hx2 : inR x2) (hx3 : inR x3) (hx4 : inR x4) (h : f_X6_join a0 x1 x2 x3 x4 S = some q) : hp_M l b D dA yX6_join cX6_join 6 (some .boolean) 8 63 [rf b a0, iv x1, iv x2, iv x3, iv x4] S 1 q := by
  have hcat : ∀ v ∈ ([rf b a0, iv x1, iv x2, iv x3, iv x4] : List Value), v.category = 1 := (by intro v hv; simp only [List.mem_cons, List.not_mem_nil, or_false] at hv; rcases hv with rfl | rfl | rfl | rfl | rfl <;> first | exact cat_iv _ | exact cat_rf _ _)
  refine hp_ofJ (own := RX6) hst (by decide +kernel) rfl hcat (Nat.le_of_ble_eq_true rfl) ?_
  intro p e R s m args below meth c C hT hnm hr ls hl9
  have hl : hp_L ls 6 [(0, rf b a0), (1, iv x1), (2, iv x2), (3, iv x3), (4, iv x4)] := hp_L.of hl9 hcat
  unfold f_X6_join at h
  refine j_aload_n C dX6_join_0 rfl (hl.at 0 rfl) ?_
  refine j_aload_n C dX6_join_1 rfl (hl.at 0 rfl) ?_
  refine j_iload_n C dX6_join_2 rfl (hl.at 1 rfl) ?_
  refine j_iload_n C dX6_join_3 rfl (hl.at 3 rfl) ?_
  refine j_iload C dX6_join_4 (hl.at 4 rfl) ?_
  obtain ⟨c3, h⟩ := gd_some h
  rcases cI_some h with ⟨S1, v2, wv2, hc, h⟩ | ⟨hc, hne⟩
  · refine j_callI C (run_W (As := [iv x1, iv x3, iv x4]) (rest := [rf b a0]) C (m_X6_isPin hst hx1 hx3 hx4 hc) cv_RX6_121 (by decide) rfl c3 rfl hl (by simp [cat_iv, cat_rf]) (by decide) (by decide) dX6_join_6) (fun hv2 => ?_)
    refine j_if_eq (tgt := 25) C dX6_join_9 (by decide) hv2 (fun b1 => ?_) (fun b1 => ?_)
    · rw [if_pos b1] at h
      exact w_X6_join_25 C hT hnm hr _ _ _ _ _ _ _ hx1 hx2 hx3 hx4 h ls (hl.sub [0, 1, 2, 3, 4] rfl)
    · rw [if_neg b1] at h
      refine j_iload_n C dX6_join_12 rfl (hl.at 2 rfl) ?_
      refine j_aload_n C dX6_join_13 rfl (hl.at 0 rfl) ?_
      obtain ⟨o4, g_o4, h⟩ := bd h
      refine j_gR C dX6_join_14 fl_RX6_26 rfl g_o4 ?_
      refine j_iload_n C dX6_join_17 rfl (hl.at 1 rfl) ?_
      obtain ⟨v5, g_v5, h⟩ := bd h
      refine j_iald C dX6_join_18 hx1 g_v5 (fun hv5 => ?_)
      rcases cI_some h with ⟨S6, v7, wv7, hc, h⟩ | ⟨hc, hne⟩
      · refine j_callI C (run_S (As := [iv x2, iv v5]) (rest := [rf b a0]) C (m_X6_isIn hst hx2 hv5 hc) cs_RX6_99 rfl hl.1.1 (by simp [cat_iv, cat_rf]) (by decide) (by decide) dX6_join_19) (fun hv7 => ?_)
        refine j_if_ne (tgt := 29) C dX6_join_22 (by decide) hv7 (fun b1 => ?_) (fun b1 => ?_)
        · rw [if_neg b1] at h
          refine j_iconst C dX6_join_29 ?_
          exact w_X6_join_30 C hT hnm hr _ _ _ _ _ _ _ _ hx1 hx2 hx3 hx4 (by decide) h ls (hl.sub [0, 1, 2, 3, 4] rfl)
        · rw [if_pos (Decidable.byContradiction b1)] at h
          exact w_X6_join_25 C hT hnm hr _ _ _ _ _ _ _ hx1 hx2 hx3 hx4 h ls (hl.sub [0, 1, 2, 3, 4] rfl)
      · exact j_thrown C hT (run_S (As := [iv x2, iv v5]) (rest := [rf b a0]) C (m_X6_isIn hst hx2 hv5 hc) cs_RX6_99 rfl hl.1.1 (by simp [cat_iv, cat_rf]) (by decide) (by decide) dX6_join_19) hne
  · exact j_thrown C hT (run_W (As := [iv x1, iv x3, iv x4]) (rest := [rf b a0]) C (m_X6_isPin hst hx1 hx3 hx4 hc) cv_RX6_121 (by decide) rfl c3 rfl hl (by simp [cat_iv, cat_rf]) (by decide) (by decide) dX6_join_6) hne
noncomputable def f_X6_part_16 (a0 : Option Nat) (x1 : Int) (x2 : Int) (x3 : Int) (t0 : Int) (u1 : Option Nat) (S : AS) : Option RS :=
  gd (isK S u1 7) <|
  cI (f_X6_refused u1 t0 0 S) fun v2 S1 =>
  if v2 = 0 then
    cI (f_X6_at x1 x2 x3 S1) fun v5 S4 =>
    (gR S4 a0 7 10).bind fun o6 =>
    (aI S4 o6 8 v5).bind fun v7 =>
    if v7 = (-1) then
      rZ 0 S4
    else
      gd (isK S4 a0 7) <|
      cV (f_X6_change a0 x1 S4) fun S8 =>
      (gR S8 a0 7 10).bind fun o11 =>
      (sI S8 o11 8 v5 (-1)).bind fun S12 =>
      rZ 1 S12
  else
    rZ 0 S1
set_option maxHeartbeats 4000000 in
set_option maxRecDepth 100000 in
theorem w_X6_part_16 {p : Program} {l : Launch} {e : Env} {R : Room} {s : State} {m : MethodId} {args : Array Value} {below : List Frame} {meth : Method} {c : Code} {b : Nat} {D : va_G} {dA : Nat → ClassId} {S0 : AS} {q : RS} (C : hp_C p l e R s m args below meth c b D dA S0 RX6 cX6_part 5 8 63) (hT : ∀ x ∈ c.exceptionTable.toList, False) (hnm : meth.name = "part") (hr : meth.sig.returnType = (some .boolean)) : ∀ (a0 : Option Nat) (x1 : Int) (x2 : Int) (x3 : Int) (t0 : Int) (u1 : Option Nat) (S : AS), inR x1 → inR x2 → inR x3 → inR t0 → f_X6_part_16 a0 x1 x2 x3 t0 u1 S = some q → ∀ ls : Array Slot, hp_L ls 5 [(0, rf b a0), (1, iv x1), (2, iv x2), (3, iv x3)] → hp_J p l e R s m args below meth c b D dA S0 (hp_Q below b D dA S0 1 q args s) S 16 ls [iv t0, rf b u1] := by
  have hst : l.stackTraces = false := C.2.2.2.2.2.2.2.2.2.2.1
  intro a0 x1 x2 x3 t0 u1 S hx1 hx2 hx3 ht0 h ls hl
  unfold f_X6_part_16 at h
  refine j_iconst C dX6_part_16 ?_
  obtain ⟨c3, h⟩ := gd_some h
  rcases cI_some h with ⟨S1, v2, wv2, hc, h⟩ | ⟨hc, hne⟩
  · refine j_callI C (run_W (As := [iv t0, iv 0]) (rest := []) C (m_X6_refused hst ht0 (by decide) hc) cv_RX6_107 (by decide) rfl c3 rfl hl (by decide) (by decide) (by decide) dX6_part_17) (fun hv2 => ?_)
    refine j_if_eq (tgt := 25) C dX6_part_20 (by decide) hv2 (fun b1 => ?_) (fun b1 => ?_)
    · rw [if_pos b1] at h
      refine j_iload_n C dX6_part_25 rfl (hl.at 1 rfl) ?_
      refine j_iload_n C dX6_part_26 rfl (hl.at 2 rfl) ?_
      refine j_iload_n C dX6_part_27 rfl (hl.at 3 rfl) ?_
      rcases cI_some h with ⟨S4, v5, wv5, hc, h⟩ | ⟨hc, hne⟩
      · refine j_callI C (run_S (As := [iv x1, iv x2, iv x3]) (rest := []) C (m_X6_at hst hx1 hx2 hx3 hc) cs_RX6_125 rfl hl.1.1 (by decide) (by decide) (by decide) dX6_part_28) (fun hv5 => ?_)
        refine k_istore (lv' := [(4, iv v5), (0, rf b a0), (1, iv x1), (2, iv x2), (3, iv x3)]) C dX6_part_31 hl (by decide) rfl (fun ls hl => ?_)
        refine j_aload_n C dX6_part_33 rfl (hl.at 1 rfl) ?_
        obtain ⟨o6, g_o6, h⟩ := bd h
        refine j_gR C dX6_part_34 fl_RX6_33 rfl g_o6 ?_
        refine j_iload C dX6_part_37 (hl.at 0 rfl) ?_
        obtain ⟨v7, g_v7, h⟩ := bd h
        refine j_iald C dX6_part_39 hv5 g_v7 (fun hv7 => ?_)
        refine j_iconst C dX6_part_40 ?_
        refine j_icmp_ne (tgt := 46) C dX6_part_41 (by decide) hv7 (by decide) (fun b1 => ?_) (fun b1 => ?_)
        · rw [if_neg b1] at h
          refine j_aload_n C dX6_part_46 rfl (hl.at 1 rfl) ?_
          refine j_iload_n C dX6_part_47 rfl (hl.at 2 rfl) ?_
          obtain ⟨c10, h⟩ := gd_some h
          rcases cV_some h with ⟨S8, y9, hc, h⟩ | ⟨hc, hne⟩
          · refine j_callV C (run_W (As := [iv x1]) (rest := []) C (m_X6_change hst hx1 hc) cv_RX6_114 (by decide) rfl c10 rfl hl (by decide) (by decide) (by decide) dX6_part_48) ?_
            refine j_aload_n C dX6_part_51 rfl (hl.at 1 rfl) ?_
            obtain ⟨o11, g_o11, h⟩ := bd h
            refine j_gR C dX6_part_52 fl_RX6_33 rfl g_o11 ?_
            refine j_iload C dX6_part_55 (hl.at 0 rfl) ?_
            refine j_iconst C dX6_part_57 ?_
            obtain ⟨S12, g_S12, h⟩ := bd h
            refine j_iast C dX6_part_58 hv5 (by decide) g_S12 ?_
            refine j_iconst C dX6_part_59 ?_
            exact j_zret C dX6_part_60 hr h
          · exact j_thrown C hT (run_W (As := [iv x1]) (rest := []) C (m_X6_change hst hx1 hc) cv_RX6_114 (by decide) rfl c10 rfl hl (by decide) (by decide) (by decide) dX6_part_48) hne
        · rw [if_pos (Decidable.byContradiction b1)] at h
          refine j_iconst C dX6_part_44 ?_
          exact j_zret C dX6_part_45 hr h
      · exact j_thrown C hT (run_S (As := [iv x1, iv x2, iv x3]) (rest := []) C (m_X6_at hst hx1 hx2 hx3 hc) cs_RX6_125 rfl hl.1.1 (by decide) (by decide) (by decide) dX6_part_28) hne
    · rw [if_neg b1] at h
      refine j_iconst C dX6_part_23 ?_
      exact j_zret C dX6_part_24 hr h
  · exact j_thrown C hT (run_W (As := [iv t0, iv 0]) (rest := []) C (m_X6_refused hst ht0 (by decide) hc) cv_RX6_107 (by decide) rfl c3 rfl hl (by decide) (by decide) (by decide) dX6_part_17) hne
noncomputable def f_X6_part (a0 : Option Nat) (x1 : Int) (x2 : Int) (x3 : Int) (S : AS) : Option RS :=
  gd (isK S a0 7) <|
  cI (f_X6_isPin a0 x1 x2 x3 S) fun v2 S1 =>
  if v2 = 0 then
    f_X6_part_16 a0 x1 x2 x3 1 a0 S1
  else
    f_X6_part_16 a0 x1 x2 x3 0 a0 S1
set_option maxHeartbeats 4000000 in
set_option maxRecDepth 100000 in
theorem m_X6_part {l : Launch} {b : Nat} {D : va_G} {dA : Nat → ClassId} (hst : l.stackTraces = false) {a0 : Option Nat} {x1 : Int} {x2 : Int} {x3 : Int} {S : AS} {q : RS} (hx1 : inR x1) (hx2 : inR x2) (hx3 : inR x3) (h : f_X6_part a0 x1 x2 x3 S = some q) : hp_M l b D dA yX6_part cX6_part 5 (some .boolean) 8 63 [rf b a0, iv x1, iv x2, iv x3] S 1 q := by
  have hcat : ∀ v ∈ ([rf b a0, iv x1, iv x2, iv x3] : List Value), v.category = 1 := (by intro v hv; simp only [List.mem_cons, List.not_mem_nil, or_false] at hv; rcases hv with rfl | rfl | rfl | rfl <;> first | exact cat_iv _ | exact cat_rf _ _)
  refine hp_ofJ (own := RX6) hst (by decide +kernel) rfl hcat (Nat.le_of_ble_eq_true rfl) ?_
  intro p e R s m args below meth c C hT hnm hr ls hl9
  have hl : hp_L ls 5 [(0, rf b a0), (1, iv x1), (2, iv x2), (3, iv x3)] := hp_L.of hl9 hcat
  unfold f_X6_part at h
  refine j_aload_n C dX6_part_0 rfl (hl.at 0 rfl) ?_
  refine j_aload_n C dX6_part_1 rfl (hl.at 0 rfl) ?_
  refine j_iload_n C dX6_part_2 rfl (hl.at 1 rfl) ?_
  refine j_iload_n C dX6_part_3 rfl (hl.at 2 rfl) ?_
  refine j_iload_n C dX6_part_4 rfl (hl.at 3 rfl) ?_
  obtain ⟨c3, h⟩ := gd_some h
  rcases cI_some h with ⟨S1, v2, wv2, hc, h⟩ | ⟨hc, hne⟩
  · refine j_callI C (run_W (As := [iv x1, iv x2, iv x3]) (rest := [rf b a0]) C (m_X6_isPin hst hx1 hx2 hx3 hc) cv_RX6_121 (by decide) rfl c3 rfl hl (by simp [cat_iv, cat_rf]) (by decide) (by decide) dX6_part_5) (fun hv2 => ?_)
    refine j_if_ne (tgt := 15) C dX6_part_8 (by decide) hv2 (fun b1 => ?_) (fun b1 => ?_)
    · rw [if_neg b1] at h
      refine j_iconst C dX6_part_15 ?_
      exact w_X6_part_16 C hT hnm hr _ _ _ _ _ _ _ hx1 hx2 hx3 (by decide) h ls (hl.sub [0, 1, 2, 3] rfl)
    · rw [if_pos (Decidable.byContradiction b1)] at h
      refine j_iconst C dX6_part_11 ?_
      refine j_goto (tgt := 16) C dX6_part_12 (by decide) ?_
      exact w_X6_part_16 C hT hnm hr _ _ _ _ _ _ _ hx1 hx2 hx3 (by decide) h ls (hl.sub [0, 1, 2, 3] rfl)
  · exact j_thrown C hT (run_W (As := [iv x1, iv x2, iv x3]) (rest := [rf b a0]) C (m_X6_isPin hst hx1 hx2 hx3 hc) cv_RX6_121 (by decide) rfl c3 rfl hl (by simp [cat_iv, cat_rf]) (by decide) (by decide) dX6_part_5) hne
noncomputable def f_X6_netOf_16 (a0 : Option Nat) (x1 : Int) (x2 : Int) (x3 : Int) (t0 : Int) (u1 : Option Nat) (S : AS) : Option RS :=
  gd (isK S u1 7) <|
  cI (f_X6_refused u1 t0 0 S) fun v2 S1 =>
  if v2 = 0 then
    (gR S1 a0 7 10).bind fun o4 =>
    cI (f_X6_at x1 x2 x3 S1) fun v6 S5 =>
    (aI S5 o4 8 v6).bind fun v7 =>
    rI v7 S5
  else
    rI 0 S1
set_option maxHeartbeats 4000000 in
set_option maxRecDepth 100000 in
theorem w_X6_netOf_16 {p : Program} {l : Launch} {e : Env} {R : Room} {s : State} {m : MethodId} {args : Array Value} {below : List Frame} {meth : Method} {c : Code} {b : Nat} {D : va_G} {dA : Nat → ClassId} {S0 : AS} {q : RS} (C : hp_C p l e R s m args below meth c b D dA S0 RX6 cX6_netOf 4 8 63) (hT : ∀ x ∈ c.exceptionTable.toList, False) (hnm : meth.name = "netOf") (hr : meth.sig.returnType = (some .int)) : ∀ (a0 : Option Nat) (x1 : Int) (x2 : Int) (x3 : Int) (t0 : Int) (u1 : Option Nat) (S : AS), inR x1 → inR x2 → inR x3 → inR t0 → f_X6_netOf_16 a0 x1 x2 x3 t0 u1 S = some q → ∀ ls : Array Slot, hp_L ls 4 [(0, rf b a0), (1, iv x1), (2, iv x2), (3, iv x3)] → hp_J p l e R s m args below meth c b D dA S0 (hp_Q below b D dA S0 1 q args s) S 16 ls [iv t0, rf b u1] := by
  have hst : l.stackTraces = false := C.2.2.2.2.2.2.2.2.2.2.1
  intro a0 x1 x2 x3 t0 u1 S hx1 hx2 hx3 ht0 h ls hl
  unfold f_X6_netOf_16 at h
  refine j_iconst C dX6_netOf_16 ?_
  obtain ⟨c3, h⟩ := gd_some h
  rcases cI_some h with ⟨S1, v2, wv2, hc, h⟩ | ⟨hc, hne⟩
  · refine j_callI C (run_W (As := [iv t0, iv 0]) (rest := []) C (m_X6_refused hst ht0 (by decide) hc) cv_RX6_107 (by decide) rfl c3 rfl hl (by decide) (by decide) (by decide) dX6_netOf_17) (fun hv2 => ?_)
    refine j_if_eq (tgt := 27) C dX6_netOf_20 (by decide) hv2 (fun b1 => ?_) (fun b1 => ?_)
    · rw [if_pos b1] at h
      refine j_aload_n C dX6_netOf_27 rfl (hl.at 0 rfl) ?_
      obtain ⟨o4, g_o4, h⟩ := bd h
      refine j_gR C dX6_netOf_28 fl_RX6_33 rfl g_o4 ?_
      refine j_iload_n C dX6_netOf_31 rfl (hl.at 1 rfl) ?_
      refine j_iload_n C dX6_netOf_32 rfl (hl.at 2 rfl) ?_
      refine j_iload_n C dX6_netOf_33 rfl (hl.at 3 rfl) ?_
      rcases cI_some h with ⟨S5, v6, wv6, hc, h⟩ | ⟨hc, hne⟩
      · refine j_callI C (run_S (As := [iv x1, iv x2, iv x3]) (rest := [rf b o4]) C (m_X6_at hst hx1 hx2 hx3 hc) cs_RX6_125 rfl hl.1.1 (by simp [cat_iv, cat_rf]) (by decide) (by decide) dX6_netOf_34) (fun hv6 => ?_)
        obtain ⟨v7, g_v7, h⟩ := bd h
        refine j_iald C dX6_netOf_37 hv6 g_v7 (fun hv7 => ?_)
        exact j_iret C dX6_netOf_38 hr hv7 h
      · exact j_thrown C hT (run_S (As := [iv x1, iv x2, iv x3]) (rest := [rf b o4]) C (m_X6_at hst hx1 hx2 hx3 hc) cs_RX6_125 rfl hl.1.1 (by simp [cat_iv, cat_rf]) (by decide) (by decide) dX6_netOf_34) hne
    · rw [if_neg b1] at h
      refine j_iconst C dX6_netOf_23 ?_
      refine j_goto (tgt := 38) C dX6_netOf_24 (by decide) ?_
      exact j_iret C dX6_netOf_38 hr (by decide) h
  · exact j_thrown C hT (run_W (As := [iv t0, iv 0]) (rest := []) C (m_X6_refused hst ht0 (by decide) hc) cv_RX6_107 (by decide) rfl c3 rfl hl (by decide) (by decide) (by decide) dX6_netOf_17) hne
noncomputable def f_X6_netOf (a0 : Option Nat) (x1 : Int) (x2 : Int) (x3 : Int) (S : AS) : Option RS :=
  gd (isK S a0 7) <|
  cI (f_X6_isPin a0 x1 x2 x3 S) fun v2 S1 =>
  if v2 = 0 then
    f_X6_netOf_16 a0 x1 x2 x3 1 a0 S1
  else
    f_X6_netOf_16 a0 x1 x2 x3 0 a0 S1
set_option maxHeartbeats 4000000 in
set_option maxRecDepth 100000 in
theorem m_X6_netOf {l : Launch} {b : Nat} {D : va_G} {dA : Nat → ClassId} (hst : l.stackTraces = false) {a0 : Option Nat} {x1 : Int} {x2 : Int} {x3 : Int} {S : AS} {q : RS} (hx1 : inR x1) (hx2 : inR x2) (hx3 : inR x3) (h : f_X6_netOf a0 x1 x2 x3 S = some q) : hp_M l b D dA yX6_netOf cX6_netOf 4 (some .int) 8 63 [rf b a0, iv x1, iv x2, iv x3] S 1 q := by
  have hcat : ∀ v ∈ ([rf b a0, iv x1, iv x2, iv x3] : List Value), v.category = 1 := (by intro v hv; simp only [List.mem_cons, List.not_mem_nil, or_false] at hv; rcases hv with rfl | rfl | rfl | rfl <;> first | exact cat_iv _ | exact cat_rf _ _)
  refine hp_ofJ (own := RX6) hst (by decide +kernel) rfl hcat (Nat.le_of_ble_eq_true rfl) ?_
  intro p e R s m args below meth c C hT hnm hr ls hl9
  have hl : hp_L ls 4 [(0, rf b a0), (1, iv x1), (2, iv x2), (3, iv x3)] := hp_L.of hl9 hcat
  unfold f_X6_netOf at h
  refine j_aload_n C dX6_netOf_0 rfl (hl.at 0 rfl) ?_
  refine j_aload_n C dX6_netOf_1 rfl (hl.at 0 rfl) ?_
  refine j_iload_n C dX6_netOf_2 rfl (hl.at 1 rfl) ?_
  refine j_iload_n C dX6_netOf_3 rfl (hl.at 2 rfl) ?_
  refine j_iload_n C dX6_netOf_4 rfl (hl.at 3 rfl) ?_
  obtain ⟨c3, h⟩ := gd_some h
  rcases cI_some h with ⟨S1, v2, wv2, hc, h⟩ | ⟨hc, hne⟩
  · refine j_callI C (run_W (As := [iv x1, iv x2, iv x3]) (rest := [rf b a0]) C (m_X6_isPin hst hx1 hx2 hx3 hc) cv_RX6_121 (by decide) rfl c3 rfl hl (by simp [cat_iv, cat_rf]) (by decide) (by decide) dX6_netOf_5) (fun hv2 => ?_)
    refine j_if_ne (tgt := 15) C dX6_netOf_8 (by decide) hv2 (fun b1 => ?_) (fun b1 => ?_)
    · rw [if_neg b1] at h
      refine j_iconst C dX6_netOf_15 ?_
      exact w_X6_netOf_16 C hT hnm hr _ _ _ _ _ _ _ hx1 hx2 hx3 (by decide) h ls (hl.sub [0, 1, 2, 3] rfl)
    · rw [if_pos (Decidable.byContradiction b1)] at h
      refine j_iconst C dX6_netOf_11 ?_
      refine j_goto (tgt := 16) C dX6_netOf_12 (by decide) ?_
      exact w_X6_netOf_16 C hT hnm hr _ _ _ _ _ _ _ hx1 hx2 hx3 (by decide) h ls (hl.sub [0, 1, 2, 3] rfl)
  · exact j_thrown C hT (run_W (As := [iv x1, iv x2, iv x3]) (rest := [rf b a0]) C (m_X6_isPin hst hx1 hx2 hx3 hc) cv_RX6_121 (by decide) rfl c3 rfl hl (by simp [cat_iv, cat_rf]) (by decide) (by decide) dX6_netOf_5) hne
noncomputable def f_X6_drives (a0 : Option Nat) (x1 : Int) (x2 : Int) (x3 : Int) (S : AS) : Option RS :=
  if x2 = (-1) then
    gd (isK S a0 7) <|
    cI (f_X6_isOut a0 x1 x3 S) fun v9 S8 =>
    if v9 = 0 then
      rZ 1 S8
    else
      rZ 0 S8
  else
    (gR S a0 7 6).bind fun o1 =>
    (chk (64 * x1)).bind fun z2 =>
    (chk (z2 + x2)).bind fun z3 =>
    (aI S o1 8 z3).bind fun v4 =>
    gd (isK S a0 7) <|
    cI (f_X6_isOut a0 v4 x3 S) fun v6 S5 =>
    rZ v6 S5
set_option maxHeartbeats 4000000 in
set_option maxRecDepth 100000 in
theorem m_X6_drives {l : Launch} {b : Nat} {D : va_G} {dA : Nat → ClassId} (hst : l.stackTraces = false) {a0 : Option Nat} {x1 : Int} {x2 : Int} {x3 : Int} {S : AS} {q : RS} (hx1 : inR x1) (hx2 : inR x2) (hx3 : inR x3) (h : f_X6_drives a0 x1 x2 x3 S = some q) : hp_M l b D dA yX6_drives cX6_drives 4 (some .boolean) 7 40 [rf b a0, iv x1, iv x2, iv x3] S 1 q := by
  have hcat : ∀ v ∈ ([rf b a0, iv x1, iv x2, iv x3] : List Value), v.category = 1 := (by intro v hv; simp only [List.mem_cons, List.not_mem_nil, or_false] at hv; rcases hv with rfl | rfl | rfl | rfl <;> first | exact cat_iv _ | exact cat_rf _ _)
  refine hp_ofJ (own := RX6) hst (by decide +kernel) rfl hcat (Nat.le_of_ble_eq_true rfl) ?_
  intro p e R s m args below meth c C hT hnm hr ls hl9
  have hl : hp_L ls 4 [(0, rf b a0), (1, iv x1), (2, iv x2), (3, iv x3)] := hp_L.of hl9 hcat
  unfold f_X6_drives at h
  refine j_iload_n C dX6_drives_0 rfl (hl.at 2 rfl) ?_
  refine j_iconst C dX6_drives_1 ?_
  refine j_icmp_ne (tgt := 22) C dX6_drives_2 (by decide) hx2 (by decide) (fun b1 => ?_) (fun b1 => ?_)
  · rw [if_neg b1] at h
    refine j_aload_n C dX6_drives_22 rfl (hl.at 0 rfl) ?_
    refine j_aload_n C dX6_drives_23 rfl (hl.at 0 rfl) ?_
    obtain ⟨o1, g_o1, h⟩ := bd h
    refine j_gR C dX6_drives_24 fl_RX6_23 rfl g_o1 ?_
    refine j_bipush (x := 64) C dX6_drives_27 (by decide) ?_
    refine j_iload_n C dX6_drives_29 rfl (hl.at 1 rfl) ?_
    obtain ⟨z2, g_z2, h⟩ := bd h
    refine j_imul C dX6_drives_30 g_z2 (fun hz2 => ?_)
    refine j_iload_n C dX6_drives_31 rfl (hl.at 2 rfl) ?_
    obtain ⟨z3, g_z3, h⟩ := bd h
    refine j_iadd C dX6_drives_32 g_z3 (fun hz3 => ?_)
    obtain ⟨v4, g_v4, h⟩ := bd h
    refine j_iald C dX6_drives_33 hz3 g_v4 (fun hv4 => ?_)
    refine j_iload_n C dX6_drives_34 rfl (hl.at 3 rfl) ?_
    obtain ⟨c7, h⟩ := gd_some h
    rcases cI_some h with ⟨S5, v6, wv6, hc, h⟩ | ⟨hc, hne⟩
    · refine j_callI C (run_W (As := [iv v4, iv x3]) (rest := []) C (m_X6_isOut hst hv4 hx3 hc) cv_RX6_129 (by decide) rfl c7 rfl hl (by decide) (by decide) (by decide) dX6_drives_35) (fun hv6 => ?_)
      exact j_zret C dX6_drives_38 hr h
    · exact j_thrown C hT (run_W (As := [iv v4, iv x3]) (rest := []) C (m_X6_isOut hst hv4 hx3 hc) cv_RX6_129 (by decide) rfl c7 rfl hl (by decide) (by decide) (by decide) dX6_drives_35) hne
  · rw [if_pos (Decidable.byContradiction b1)] at h
    refine j_aload_n C dX6_drives_5 rfl (hl.at 0 rfl) ?_
    refine j_iload_n C dX6_drives_6 rfl (hl.at 1 rfl) ?_
    refine j_iload_n C dX6_drives_7 rfl (hl.at 3 rfl) ?_
    obtain ⟨c10, h⟩ := gd_some h
    rcases cI_some h with ⟨S8, v9, wv9, hc, h⟩ | ⟨hc, hne⟩
    · refine j_callI C (run_W (As := [iv x1, iv x3]) (rest := []) C (m_X6_isOut hst hx1 hx3 hc) cv_RX6_129 (by decide) rfl c10 rfl hl (by decide) (by decide) (by decide) dX6_drives_8) (fun hv9 => ?_)
      refine j_if_ne (tgt := 18) C dX6_drives_11 (by decide) hv9 (fun b1 => ?_) (fun b1 => ?_)
      · rw [if_neg b1] at h
        refine j_iconst C dX6_drives_18 ?_
        refine j_goto (tgt := 38) C dX6_drives_19 (by decide) ?_
        exact j_zret C dX6_drives_38 hr h
      · rw [if_pos (Decidable.byContradiction b1)] at h
        refine j_iconst C dX6_drives_14 ?_
        refine j_goto (tgt := 38) C dX6_drives_15 (by decide) ?_
        exact j_zret C dX6_drives_38 hr h
    · exact j_thrown C hT (run_W (As := [iv x1, iv x3]) (rest := []) C (m_X6_isOut hst hx1 hx3 hc) cv_RX6_129 (by decide) rfl c10 rfl hl (by decide) (by decide) (by decide) dX6_drives_8) hne
noncomputable def f_X6_countPins_48 (n : Nat) (k6 : Option Nat → Int → Int → Int → Int → Int → AS → Option RS) (a0 : Option Nat) (x1 : Int) (x2 : Int) (x3 : Int) (x4 : Int) (x5 : Int) (x6 : Int) (x7 : Int) (S : AS) : Option RS := match n with
  | 0 => none
  | n + 1 =>
    if x6 ≤ x7 then
      (chk (x5 + 1)).bind fun z1 =>
      k6 a0 x1 x2 x3 x4 z1 S
    else
      (gR S a0 7 10).bind fun o2 =>
      cI (f_X6_at x1 x5 x7 S) fun v4 S3 =>
      (aI S3 o2 8 v4).bind fun v5 =>
      if v5 = x2 then
        if x3 = 0 then
          (chk (x4 + 1)).bind fun z7 =>
          (chk (x7 + 1)).bind fun z8 =>
          f_X6_countPins_48 n k6 a0 x1 x2 x3 z7 x5 x6 z8 S3
        else
          gd (isK S3 a0 7) <|
          cI (f_X6_drives a0 x1 x5 x7 S3) fun v10 S9 =>
          if v10 = 0 then
            (chk (x7 + 1)).bind fun z12 =>
            f_X6_countPins_48 n k6 a0 x1 x2 x3 x4 x5 x6 z12 S9
          else
            (chk (x4 + 1)).bind fun z13 =>
            (chk (x7 + 1)).bind fun z14 =>
            f_X6_countPins_48 n k6 a0 x1 x2 x3 z13 x5 x6 z14 S9
      else
        (chk (x7 + 1)).bind fun z6 =>
        f_X6_countPins_48 n k6 a0 x1 x2 x3 x4 x5 x6 z6 S3
set_option maxHeartbeats 4000000 in
set_option maxRecDepth 100000 in
theorem w_X6_countPins_48 {p : Program} {l : Launch} {e : Env} {R : Room} {s : State} {m : MethodId} {args : Array Value} {below : List Frame} {meth : Method} {c : Code} {b : Nat} {D : va_G} {dA : Nat → ClassId} {S0 : AS} {q : RS} (C : hp_C p l e R s m args below meth c b D dA S0 RX6 cX6_countPins 8 8 63) (hT : ∀ x ∈ c.exceptionTable.toList, False) (hnm : meth.name = "countPins") (hr : meth.sig.returnType = (some .int)) {k6 : Option Nat → Int → Int → Int → Int → Int → AS → Option RS} (hk6 : ∀ (a0 : Option Nat) (x1 : Int) (x2 : Int) (x3 : Int) (x4 : Int) (x5 : Int) (S : AS), inR x1 → inR x2 → inR x3 → inR x4 → inR x5 → k6 a0 x1 x2 x3 x4 x5 S = some q → ∀ ls : Array Slot, hp_L ls 8 [(0, rf b a0), (1, iv x1), (2, iv x2), (3, iv x3), (4, iv x4), (5, iv x5)] → hp_J p l e R s m args below meth c b D dA S0 (hp_Q below b D dA S0 1 q args s) S 6 ls []) : ∀ (n : Nat), ∀ (a0 : Option Nat) (x1 : Int) (x2 : Int) (x3 : Int) (x4 : Int) (x5 : Int) (x6 : Int) (x7 : Int) (S : AS), inR x1 → inR x2 → inR x3 → inR x4 → inR x5 → inR x6 → inR x7 → f_X6_countPins_48 n k6 a0 x1 x2 x3 x4 x5 x6 x7 S = some q → ∀ ls : Array Slot, hp_L ls 8 [(0, rf b a0), (1, iv x1), (2, iv x2), (3, iv x3), (4, iv x4), (5, iv x5), (6, iv x6), (7, iv x7)] → hp_J p l e R s m args below meth c b D dA S0 (hp_Q below b D dA S0 1 q args s) S 48 ls [] := by
  have hst : l.stackTraces = false := C.2.2.2.2.2.2.2.2.2.2.1
  intro n
  induction n with
  | zero =>
    intro a0 x1 x2 x3 x4 x5 x6 x7 S hx1 hx2 hx3 hx4 hx5 hx6 hx7 h
    cases h
  | succ n ih =>
    intro a0 x1 x2 x3 x4 x5 x6 x7 S hx1 hx2 hx3 hx4 hx5 hx6 hx7 h ls hl
    unfold f_X6_countPins_48 at h
    refine j_iload C dX6_countPins_48 (hl.at 7 rfl) ?_
    refine j_iload C dX6_countPins_50 (hl.at 6 rfl) ?_
    refine j_icmp_ge (tgt := 97) C dX6_countPins_52 (by decide) hx7 hx6 (fun b1 => ?_) (fun b1 => ?_)
    · rw [if_pos b1] at h
      obtain ⟨z1, g_z1, h⟩ := bd h
      refine k_iinc (k9 := 5) (lv' := [(5, iv z1), (0, rf b a0), (1, iv x1), (2, iv x2), (3, iv x3), (4, iv x4), (6, iv x6), (7, iv x7)]) C dX6_countPins_97 hl rfl g_z1 (by decide) rfl (fun hz1 ls hl => ?_)
      refine j_goto (tgt := 6) C dX6_countPins_100 (by decide) ?_
      exact hk6 _ _ _ _ _ _ _ hx1 hx2 hx3 hx4 hz1 h ls (hl.sub [1, 2, 3, 4, 5, 0] rfl)
    · rw [if_neg b1] at h
      refine j_aload_n C dX6_countPins_55 rfl (hl.at 0 rfl) ?_
      obtain ⟨o2, g_o2, h⟩ := bd h
      refine j_gR C dX6_countPins_56 fl_RX6_33 rfl g_o2 ?_
      refine j_iload_n C dX6_countPins_59 rfl (hl.at 1 rfl) ?_
      refine j_iload C dX6_countPins_60 (hl.at 5 rfl) ?_
      refine j_iload C dX6_countPins_62 (hl.at 7 rfl) ?_
      rcases cI_some h with ⟨S3, v4, wv4, hc, h⟩ | ⟨hc, hne⟩
      · refine j_callI C (run_S (As := [iv x1, iv x5, iv x7]) (rest := [rf b o2]) C (m_X6_at hst hx1 hx5 hx7 hc) cs_RX6_125 rfl hl.1.1 (by simp [cat_iv, cat_rf]) (by decide) (by decide) dX6_countPins_64) (fun hv4 => ?_)
        obtain ⟨v5, g_v5, h⟩ := bd h
        refine j_iald C dX6_countPins_67 hv4 g_v5 (fun hv5 => ?_)
        refine j_iload_n C dX6_countPins_68 rfl (hl.at 2 rfl) ?_
        refine j_icmp_ne (tgt := 91) C dX6_countPins_69 (by decide) hv5 hx2 (fun b1 => ?_) (fun b1 => ?_)
        · rw [if_neg b1] at h
          obtain ⟨z6, g_z6, h⟩ := bd h
          refine k_iinc (k9 := 7) (lv' := [(7, iv z6), (0, rf b a0), (1, iv x1), (2, iv x2), (3, iv x3), (4, iv x4), (5, iv x5), (6, iv x6)]) C dX6_countPins_91 hl rfl g_z6 (by decide) rfl (fun hz6 ls hl => ?_)
          refine j_goto (tgt := 48) C dX6_countPins_94 (by decide) ?_
          exact ih _ _ _ _ _ _ _ _ _ hx1 hx2 hx3 hx4 hx5 hx6 hz6 h ls (hl.sub [1, 2, 3, 4, 5, 6, 7, 0] rfl)
        · rw [if_pos (Decidable.byContradiction b1)] at h
          refine j_iload_n C dX6_countPins_72 rfl (hl.at 3 rfl) ?_
          refine j_if_eq (tgt := 88) C dX6_countPins_73 (by decide) hx3 (fun b1 => ?_) (fun b1 => ?_)
          · rw [if_pos b1] at h
            obtain ⟨z7, g_z7, h⟩ := bd h
            refine k_iinc (k9 := 4) (lv' := [(4, iv z7), (0, rf b a0), (1, iv x1), (2, iv x2), (3, iv x3), (5, iv x5), (6, iv x6), (7, iv x7)]) C dX6_countPins_88 hl rfl g_z7 (by decide) rfl (fun hz7 ls hl => ?_)
            obtain ⟨z8, g_z8, h⟩ := bd h
            refine k_iinc (k9 := 7) (lv' := [(7, iv z8), (4, iv z7), (0, rf b a0), (1, iv x1), (2, iv x2), (3, iv x3), (5, iv x5), (6, iv x6)]) C dX6_countPins_91 hl rfl g_z8 (by decide) rfl (fun hz8 ls hl => ?_)
            refine j_goto (tgt := 48) C dX6_countPins_94 (by decide) ?_
            exact ih _ _ _ _ _ _ _ _ _ hx1 hx2 hx3 hz7 hx5 hx6 hz8 h ls (hl.sub [2, 3, 4, 5, 1, 6, 7, 0] rfl)
          · rw [if_neg b1] at h
            refine j_aload_n C dX6_countPins_76 rfl (hl.at 0 rfl) ?_
            refine j_iload_n C dX6_countPins_77 rfl (hl.at 1 rfl) ?_
            refine j_iload C dX6_countPins_78 (hl.at 5 rfl) ?_
            refine j_iload C dX6_countPins_80 (hl.at 7 rfl) ?_
            obtain ⟨c11, h⟩ := gd_some h
            rcases cI_some h with ⟨S9, v10, wv10, hc, h⟩ | ⟨hc, hne⟩
            · refine j_callI C (run_W (As := [iv x1, iv x5, iv x7]) (rest := []) C (m_X6_drives hst hx1 hx5 hx7 hc) cv_RX6_132 (by decide) rfl c11 rfl hl (by decide) (by decide) (by decide) dX6_countPins_82) (fun hv10 => ?_)
              refine j_if_eq (tgt := 91) C dX6_countPins_85 (by decide) hv10 (fun b1 => ?_) (fun b1 => ?_)
              · rw [if_pos b1] at h
                obtain ⟨z12, g_z12, h⟩ := bd h
                refine k_iinc (k9 := 7) (lv' := [(7, iv z12), (0, rf b a0), (1, iv x1), (2, iv x2), (3, iv x3), (4, iv x4), (5, iv x5), (6, iv x6)]) C dX6_countPins_91 hl rfl g_z12 (by decide) rfl (fun hz12 ls hl => ?_)
                refine j_goto (tgt := 48) C dX6_countPins_94 (by decide) ?_
                exact ih _ _ _ _ _ _ _ _ _ hx1 hx2 hx3 hx4 hx5 hx6 hz12 h ls (hl.sub [1, 2, 3, 4, 5, 6, 7, 0] rfl)
              · rw [if_neg b1] at h
                obtain ⟨z13, g_z13, h⟩ := bd h
                refine k_iinc (k9 := 4) (lv' := [(4, iv z13), (0, rf b a0), (1, iv x1), (2, iv x2), (3, iv x3), (5, iv x5), (6, iv x6), (7, iv x7)]) C dX6_countPins_88 hl rfl g_z13 (by decide) rfl (fun hz13 ls hl => ?_)
                obtain ⟨z14, g_z14, h⟩ := bd h
                refine k_iinc (k9 := 7) (lv' := [(7, iv z14), (4, iv z13), (0, rf b a0), (1, iv x1), (2, iv x2), (3, iv x3), (5, iv x5), (6, iv x6)]) C dX6_countPins_91 hl rfl g_z14 (by decide) rfl (fun hz14 ls hl => ?_)
                refine j_goto (tgt := 48) C dX6_countPins_94 (by decide) ?_
                exact ih _ _ _ _ _ _ _ _ _ hx1 hx2 hx3 hz13 hx5 hx6 hz14 h ls (hl.sub [2, 3, 4, 5, 1, 6, 7, 0] rfl)
            · exact j_thrown C hT (run_W (As := [iv x1, iv x5, iv x7]) (rest := []) C (m_X6_drives hst hx1 hx5 hx7 hc) cv_RX6_132 (by decide) rfl c11 rfl hl (by decide) (by decide) (by decide) dX6_countPins_82) hne
      · exact j_thrown C hT (run_S (As := [iv x1, iv x5, iv x7]) (rest := [rf b o2]) C (m_X6_at hst hx1 hx5 hx7 hc) cs_RX6_125 rfl hl.1.1 (by simp [cat_iv, cat_rf]) (by decide) (by decide) dX6_countPins_64) hne
noncomputable def f_X6_countPins_40 (k6 : Option Nat → Int → Int → Int → Int → Int → AS → Option RS) (a0 : Option Nat) (x1 : Int) (x2 : Int) (x3 : Int) (x4 : Int) (x5 : Int) (t0 : Int) (u1 : Option Nat) (S : AS) : Option RS :=
  gd (isK S u1 7) <|
  cI (f_X6_ownPins u1 t0 S) fun v2 S1 =>
  f_X6_countPins_48 FU k6 a0 x1 x2 x3 x4 x5 v2 0 S1
set_option maxHeartbeats 4000000 in
set_option maxRecDepth 100000 in
theorem w_X6_countPins_40 {p : Program} {l : Launch} {e : Env} {R : Room} {s : State} {m : MethodId} {args : Array Value} {below : List Frame} {meth : Method} {c : Code} {b : Nat} {D : va_G} {dA : Nat → ClassId} {S0 : AS} {q : RS} (C : hp_C p l e R s m args below meth c b D dA S0 RX6 cX6_countPins 8 8 63) (hT : ∀ x ∈ c.exceptionTable.toList, False) (hnm : meth.name = "countPins") (hr : meth.sig.returnType = (some .int)) {k6 : Option Nat → Int → Int → Int → Int → Int → AS → Option RS} (hk6 : ∀ (a0 : Option Nat) (x1 : Int) (x2 : Int) (x3 : Int) (x4 : Int) (x5 : Int) (S : AS), inR x1 → inR x2 → inR x3 → inR x4 → inR x5 → k6 a0 x1 x2 x3 x4 x5 S = some q → ∀ ls : Array Slot, hp_L ls 8 [(0, rf b a0), (1, iv x1), (2, iv x2), (3, iv x3), (4, iv x4), (5, iv x5)] → hp_J p l e R s m args below meth c b D dA S0 (hp_Q below b D dA S0 1 q args s) S 6 ls []) : ∀ (a0 : Option Nat) (x1 : Int) (x2 : Int) (x3 : Int) (x4 : Int) (x5 : Int) (t0 : Int) (u1 : Option Nat) (S : AS), inR x1 → inR x2 → inR x3 → inR x4 → inR x5 → inR t0 → f_X6_countPins_40 k6 a0 x1 x2 x3 x4 x5 t0 u1 S = some q → ∀ ls : Array Slot, hp_L ls 8 [(0, rf b a0), (1, iv x1), (2, iv x2), (3, iv x3), (4, iv x4), (5, iv x5)] → hp_J p l e R s m args below meth c b D dA S0 (hp_Q below b D dA S0 1 q args s) S 40 ls [iv t0, rf b u1] := by
  have hst : l.stackTraces = false := C.2.2.2.2.2.2.2.2.2.2.1
  intro a0 x1 x2 x3 x4 x5 t0 u1 S hx1 hx2 hx3 hx4 hx5 ht0 h ls hl
  unfold f_X6_countPins_40 at h
  obtain ⟨c3, h⟩ := gd_some h
  rcases cI_some h with ⟨S1, v2, wv2, hc, h⟩ | ⟨hc, hne⟩
  · refine j_callI C (run_W (As := [iv t0]) (rest := []) C (m_X6_ownPins hst ht0 hc) cv_RX6_117 (by decide) rfl c3 rfl hl (by decide) (by decide) (by decide) dX6_countPins_40) (fun hv2 => ?_)
    refine k_istore (lv' := [(6, iv v2), (0, rf b a0), (1, iv x1), (2, iv x2), (3, iv x3), (4, iv x4), (5, iv x5)]) C dX6_countPins_43 hl (by decide) rfl (fun ls hl => ?_)
    refine j_iconst C dX6_countPins_45 ?_
    refine k_istore (lv' := [(7, iv 0), (6, iv v2), (0, rf b a0), (1, iv x1), (2, iv x2), (3, iv x3), (4, iv x4), (5, iv x5)]) C dX6_countPins_46 hl (by decide) rfl (fun ls hl => ?_)
    exact w_X6_countPins_48 C hT hnm hr hk6 FU _ _ _ _ _ _ _ _ _ hx1 hx2 hx3 hx4 hx5 hv2 (by decide) h ls (hl.sub [2, 3, 4, 5, 6, 7, 1, 0] rfl)
  · exact j_thrown C hT (run_W (As := [iv t0]) (rest := []) C (m_X6_ownPins hst ht0 hc) cv_RX6_117 (by decide) rfl c3 rfl hl (by decide) (by decide) (by decide) dX6_countPins_40) hne
noncomputable def f_X6_countPins_6 (n : Nat) (a0 : Option Nat) (x1 : Int) (x2 : Int) (x3 : Int) (x4 : Int) (x5 : Int) (S : AS) : Option RS := match n with
  | 0 => none
  | n + 1 =>
    (gR S a0 7 5).bind fun o1 =>
    (aI S o1 8 x1).bind fun v2 =>
    if v2 ≤ x5 then
      rI x4 S
    else
      if x5 = (-1) then
        f_X6_countPins_40 (f_X6_countPins_6 n) a0 x1 x2 x3 x4 x5 x1 a0 S
      else
        (gR S a0 7 6).bind fun o3 =>
        (chk (64 * x1)).bind fun z4 =>
        (chk (z4 + x5)).bind fun z5 =>
        (aI S o3 8 z5).bind fun v6 =>
        f_X6_countPins_40 (f_X6_countPins_6 n) a0 x1 x2 x3 x4 x5 v6 a0 S
set_option maxHeartbeats 4000000 in
set_option maxRecDepth 100000 in
theorem w_X6_countPins_6 {p : Program} {l : Launch} {e : Env} {R : Room} {s : State} {m : MethodId} {args : Array Value} {below : List Frame} {meth : Method} {c : Code} {b : Nat} {D : va_G} {dA : Nat → ClassId} {S0 : AS} {q : RS} (C : hp_C p l e R s m args below meth c b D dA S0 RX6 cX6_countPins 8 8 63) (hT : ∀ x ∈ c.exceptionTable.toList, False) (hnm : meth.name = "countPins") (hr : meth.sig.returnType = (some .int)) : ∀ (n : Nat), ∀ (a0 : Option Nat) (x1 : Int) (x2 : Int) (x3 : Int) (x4 : Int) (x5 : Int) (S : AS), inR x1 → inR x2 → inR x3 → inR x4 → inR x5 → f_X6_countPins_6 n a0 x1 x2 x3 x4 x5 S = some q → ∀ ls : Array Slot, hp_L ls 8 [(0, rf b a0), (1, iv x1), (2, iv x2), (3, iv x3), (4, iv x4), (5, iv x5)] → hp_J p l e R s m args below meth c b D dA S0 (hp_Q below b D dA S0 1 q args s) S 6 ls [] := by
  have hst : l.stackTraces = false := C.2.2.2.2.2.2.2.2.2.2.1
  intro n
  induction n with
  | zero =>
    intro a0 x1 x2 x3 x4 x5 S hx1 hx2 hx3 hx4 hx5 h
    cases h
  | succ n ih =>
    intro a0 x1 x2 x3 x4 x5 S hx1 hx2 hx3 hx4 hx5 h ls hl
    unfold f_X6_countPins_6 at h
    refine j_iload C dX6_countPins_6 (hl.at 5 rfl) ?_
    refine j_aload_n C dX6_countPins_8 rfl (hl.at 0 rfl) ?_
    obtain ⟨o1, g_o1, h⟩ := bd h
    refine j_gR C dX6_countPins_9 fl_RX6_20 rfl g_o1 ?_
    refine j_iload_n C dX6_countPins_12 rfl (hl.at 1 rfl) ?_
    obtain ⟨v2, g_v2, h⟩ := bd h
    refine j_iald C dX6_countPins_13 hx1 g_v2 (fun hv2 => ?_)
    refine j_icmp_ge (tgt := 103) C dX6_countPins_14 (by decide) hx5 hv2 (fun b1 => ?_) (fun b1 => ?_)
    · rw [if_pos b1] at h
      refine j_iload C dX6_countPins_103 (hl.at 4 rfl) ?_
      exact j_iret C dX6_countPins_105 hr hx4 h
    · rw [if_neg b1] at h
      refine j_aload_n C dX6_countPins_17 rfl (hl.at 0 rfl) ?_
      refine j_iload C dX6_countPins_18 (hl.at 5 rfl) ?_
      refine j_iconst C dX6_countPins_20 ?_
      refine j_icmp_ne (tgt := 28) C dX6_countPins_21 (by decide) hx5 (by decide) (fun b1 => ?_) (fun b1 => ?_)
      · rw [if_neg b1] at h
        refine j_aload_n C dX6_countPins_28 rfl (hl.at 0 rfl) ?_
        obtain ⟨o3, g_o3, h⟩ := bd h
        refine j_gR C dX6_countPins_29 fl_RX6_23 rfl g_o3 ?_
        refine j_bipush (x := 64) C dX6_countPins_32 (by decide) ?_
        refine j_iload_n C dX6_countPins_34 rfl (hl.at 1 rfl) ?_
        obtain ⟨z4, g_z4, h⟩ := bd h
        refine j_imul C dX6_countPins_35 g_z4 (fun hz4 => ?_)
        refine j_iload C dX6_countPins_36 (hl.at 5 rfl) ?_
        obtain ⟨z5, g_z5, h⟩ := bd h
        refine j_iadd C dX6_countPins_38 g_z5 (fun hz5 => ?_)
        obtain ⟨v6, g_v6, h⟩ := bd h
        refine j_iald C dX6_countPins_39 hz5 g_v6 (fun hv6 => ?_)
        exact w_X6_countPins_40 C hT hnm hr ih _ _ _ _ _ _ _ _ _ hx1 hx2 hx3 hx4 hx5 hv6 h ls (hl.sub [0, 1, 2, 3, 4, 5] rfl)
      · rw [if_pos (Decidable.byContradiction b1)] at h
        refine j_iload_n C dX6_countPins_24 rfl (hl.at 1 rfl) ?_
        refine j_goto (tgt := 40) C dX6_countPins_25 (by decide) ?_
        exact w_X6_countPins_40 C hT hnm hr ih _ _ _ _ _ _ _ _ _ hx1 hx2 hx3 hx4 hx5 hx1 h ls (hl.sub [0, 1, 2, 3, 4, 5] rfl)
noncomputable def f_X6_countPins (a0 : Option Nat) (x1 : Int) (x2 : Int) (x3 : Int) (S : AS) : Option RS :=
  f_X6_countPins_6 FU a0 x1 x2 x3 0 (-1) S
set_option maxHeartbeats 4000000 in
set_option maxRecDepth 100000 in
theorem m_X6_countPins {l : Launch} {b : Nat} {D : va_G} {dA : Nat → ClassId} (hst : l.stackTraces = false) {a0 : Option Nat} {x1 : Int} {x2 : Int} {x3 : Int} {S : AS} {q : RS} (hx1 : inR x1) (hx2 : inR x2) (hx3 : inR x3) (h : f_X6_countPins a0 x1 x2 x3 S = some q) : hp_M l b D dA yX6_countPins cX6_countPins 8 (some .int) 8 63 [rf b a0, iv x1, iv x2, iv x3] S 1 q := by
  have hcat : ∀ v ∈ ([rf b a0, iv x1, iv x2, iv x3] : List Value), v.category = 1 := (by intro v hv; simp only [List.mem_cons, List.not_mem_nil, or_false] at hv; rcases hv with rfl | rfl | rfl | rfl <;> first | exact cat_iv _ | exact cat_rf _ _)
  refine hp_ofJ (own := RX6) hst (by decide +kernel) rfl hcat (Nat.le_of_ble_eq_true rfl) ?_
  intro p e R s m args below meth c C hT hnm hr ls hl9
  have hl : hp_L ls 8 [(0, rf b a0), (1, iv x1), (2, iv x2), (3, iv x3)] := hp_L.of hl9 hcat
  unfold f_X6_countPins at h
  refine j_iconst C dX6_countPins_0 ?_
  refine k_istore (lv' := [(4, iv 0), (0, rf b a0), (1, iv x1), (2, iv x2), (3, iv x3)]) C dX6_countPins_1 hl (by decide) rfl (fun ls hl => ?_)
  refine j_iconst C dX6_countPins_3 ?_
  refine k_istore (lv' := [(5, iv (-1)), (4, iv 0), (0, rf b a0), (1, iv x1), (2, iv x2), (3, iv x3)]) C dX6_countPins_4 hl (by decide) rfl (fun ls hl => ?_)
  exact w_X6_countPins_6 C hT hnm hr FU _ _ _ _ _ _ _ hx1 hx2 hx3 (by decide) (by decide) h ls (hl.sub [2, 3, 4, 5, 1, 0] rfl)
noncomputable def f_X6_pins_40 (a0 : Option Nat) (x1 : Int) (x2 : Int) (t0 : Int) (u1 : Option Nat) (S : AS) : Option RS :=
  gd (isK S u1 7) <|
  cI (f_X6_refused u1 t0 0 S) fun v2 S1 =>
  if v2 = 0 then
    gd (isK S1 a0 7) <|
    cI (f_X6_countPins a0 x1 x2 0 S1) fun v5 S4 =>
    rI v5 S4
  else
    rI 0 S1
set_option maxHeartbeats 4000000 in
set_option maxRecDepth 100000 in
theorem w_X6_pins_40 {p : Program} {l : Launch} {e : Env} {R : Room} {s : State} {m : MethodId} {args : Array Value} {below : List Frame} {meth : Method} {c : Code} {b : Nat} {D : va_G} {dA : Nat → ClassId} {S0 : AS} {q : RS} (C : hp_C p l e R s m args below meth c b D dA S0 RX6 cX6_pins 4 9 90) (hT : ∀ x ∈ c.exceptionTable.toList, False) (hnm : meth.name = "pins") (hr : meth.sig.returnType = (some .int)) : ∀ (a0 : Option Nat) (x1 : Int) (x2 : Int) (t0 : Int) (u1 : Option Nat) (S : AS), inR x1 → inR x2 → inR t0 → f_X6_pins_40 a0 x1 x2 t0 u1 S = some q → ∀ ls : Array Slot, hp_L ls 4 [(0, rf b a0), (1, iv x1), (2, iv x2)] → hp_J p l e R s m args below meth c b D dA S0 (hp_Q below b D dA S0 1 q args s) S 40 ls [iv t0, rf b u1] := by
  have hst : l.stackTraces = false := C.2.2.2.2.2.2.2.2.2.2.1
  intro a0 x1 x2 t0 u1 S hx1 hx2 ht0 h ls hl
  unfold f_X6_pins_40 at h
  refine j_iconst C dX6_pins_40 ?_
  obtain ⟨c3, h⟩ := gd_some h
  rcases cI_some h with ⟨S1, v2, wv2, hc, h⟩ | ⟨hc, hne⟩
  · refine j_callI C (run_W (As := [iv t0, iv 0]) (rest := []) C (m_X6_refused hst ht0 (by decide) hc) cv_RX6_107 (by decide) rfl c3 rfl hl (by decide) (by decide) (by decide) dX6_pins_41) (fun hv2 => ?_)
    refine j_if_eq (tgt := 51) C dX6_pins_44 (by decide) hv2 (fun b1 => ?_) (fun b1 => ?_)
    · rw [if_pos b1] at h
      refine j_aload_n C dX6_pins_51 rfl (hl.at 0 rfl) ?_
      refine j_iload_n C dX6_pins_52 rfl (hl.at 1 rfl) ?_
      refine j_iload_n C dX6_pins_53 rfl (hl.at 2 rfl) ?_
      refine j_iconst C dX6_pins_54 ?_
      obtain ⟨c6, h⟩ := gd_some h
      rcases cI_some h with ⟨S4, v5, wv5, hc, h⟩ | ⟨hc, hne⟩
      · refine j_callI C (run_W (As := [iv x1, iv x2, iv 0]) (rest := []) C (m_X6_countPins hst hx1 hx2 (by decide) hc) cv_RX6_135 (by decide) rfl c6 rfl hl (by decide) (by decide) (by decide) dX6_pins_55) (fun hv5 => ?_)
        exact j_iret C dX6_pins_58 hr hv5 h
      · exact j_thrown C hT (run_W (As := [iv x1, iv x2, iv 0]) (rest := []) C (m_X6_countPins hst hx1 hx2 (by decide) hc) cv_RX6_135 (by decide) rfl c6 rfl hl (by decide) (by decide) (by decide) dX6_pins_55) hne
    · rw [if_neg b1] at h
      refine j_iconst C dX6_pins_47 ?_
      refine j_goto (tgt := 58) C dX6_pins_48 (by decide) ?_
      exact j_iret C dX6_pins_58 hr (by decide) h
  · exact j_thrown C hT (run_W (As := [iv t0, iv 0]) (rest := []) C (m_X6_refused hst ht0 (by decide) hc) cv_RX6_107 (by decide) rfl c3 rfl hl (by decide) (by decide) (by decide) dX6_pins_41) hne
noncomputable def f_X6_pins_29 (a0 : Option Nat) (x1 : Int) (x2 : Int) (t0 : Int) (S : AS) : Option RS :=
  if t0 = 0 then
    f_X6_pins_40 a0 x1 x2 1 a0 S
  else
    f_X6_pins_40 a0 x1 x2 0 a0 S
set_option maxHeartbeats 4000000 in
set_option maxRecDepth 100000 in
theorem w_X6_pins_29 {p : Program} {l : Launch} {e : Env} {R : Room} {s : State} {m : MethodId} {args : Array Value} {below : List Frame} {meth : Method} {c : Code} {b : Nat} {D : va_G} {dA : Nat → ClassId} {S0 : AS} {q : RS} (C : hp_C p l e R s m args below meth c b D dA S0 RX6 cX6_pins 4 9 90) (hT : ∀ x ∈ c.exceptionTable.toList, False) (hnm : meth.name = "pins") (hr : meth.sig.returnType = (some .int)) : ∀ (a0 : Option Nat) (x1 : Int) (x2 : Int) (t0 : Int) (S : AS), inR x1 → inR x2 → inR t0 → f_X6_pins_29 a0 x1 x2 t0 S = some q → ∀ ls : Array Slot, hp_L ls 4 [(0, rf b a0), (1, iv x1), (2, iv x2)] → hp_J p l e R s m args below meth c b D dA S0 (hp_Q below b D dA S0 1 q args s) S 29 ls [iv t0] := by
  have hst : l.stackTraces = false := C.2.2.2.2.2.2.2.2.2.2.1
  intro a0 x1 x2 t0 S hx1 hx2 ht0 h ls hl
  unfold f_X6_pins_29 at h
  refine k_istore_n (lv' := [(3, iv t0), (0, rf b a0), (1, iv x1), (2, iv x2)]) C dX6_pins_29 rfl hl (by decide) rfl (fun ls hl => ?_)
  refine j_aload_n C dX6_pins_30 rfl (hl.at 1 rfl) ?_
  refine j_iload_n C dX6_pins_31 rfl (hl.at 0 rfl) ?_
  refine j_if_ne (tgt := 39) C dX6_pins_32 (by decide) ht0 (fun b1 => ?_) (fun b1 => ?_)
  · rw [if_neg b1] at h
    refine j_iconst C dX6_pins_39 ?_
    exact w_X6_pins_40 C hT hnm hr _ _ _ _ _ _ hx1 hx2 (by decide) h ls (hl.sub [1, 2, 3] rfl)
  · rw [if_pos (Decidable.byContradiction b1)] at h
    refine j_iconst C dX6_pins_35 ?_
    refine j_goto (tgt := 40) C dX6_pins_36 (by decide) ?_
    exact w_X6_pins_40 C hT hnm hr _ _ _ _ _ _ hx1 hx2 (by decide) h ls (hl.sub [1, 2, 3] rfl)
noncomputable def f_X6_pins_28 (a0 : Option Nat) (x1 : Int) (x2 : Int) (S : AS) : Option RS :=
  f_X6_pins_29 a0 x1 x2 0 S
set_option maxHeartbeats 4000000 in
set_option maxRecDepth 100000 in
theorem w_X6_pins_28 {p : Program} {l : Launch} {e : Env} {R : Room} {s : State} {m : MethodId} {args : Array Value} {below : List Frame} {meth : Method} {c : Code} {b : Nat} {D : va_G} {dA : Nat → ClassId} {S0 : AS} {q : RS} (C : hp_C p l e R s m args below meth c b D dA S0 RX6 cX6_pins 4 9 90) (hT : ∀ x ∈ c.exceptionTable.toList, False) (hnm : meth.name = "pins") (hr : meth.sig.returnType = (some .int)) : ∀ (a0 : Option Nat) (x1 : Int) (x2 : Int) (S : AS), inR x1 → inR x2 → f_X6_pins_28 a0 x1 x2 S = some q → ∀ ls : Array Slot, hp_L ls 4 [(0, rf b a0), (1, iv x1), (2, iv x2)] → hp_J p l e R s m args below meth c b D dA S0 (hp_Q below b D dA S0 1 q args s) S 28 ls [] := by
  have hst : l.stackTraces = false := C.2.2.2.2.2.2.2.2.2.2.1
  intro a0 x1 x2 S hx1 hx2 h ls hl
  unfold f_X6_pins_28 at h
  refine j_iconst C dX6_pins_28 ?_
  exact w_X6_pins_29 C hT hnm hr _ _ _ _ _ hx1 hx2 (by decide) h ls (hl.sub [0, 1, 2] rfl)
noncomputable def f_X6_pins (a0 : Option Nat) (x1 : Int) (x2 : Int) (S : AS) : Option RS :=
  (gI S a0 7 1).bind fun v1 =>
  cI (f_X6_isIn x1 v1 S) fun v3 S2 =>
  if v3 = 0 then
    f_X6_pins_28 a0 x1 x2 S2
  else
    (gR S2 a0 7 7).bind fun o4 =>
    (aI S2 o4 8 x1).bind fun v5 =>
    cI (f_X6_isIn x2 v5 S2) fun v7 S6 =>
    if v7 = 0 then
      f_X6_pins_28 a0 x1 x2 S6
    else
      f_X6_pins_29 a0 x1 x2 1 S6
set_option maxHeartbeats 4000000 in
set_option maxRecDepth 100000 in
theorem m_X6_pins {l : Launch} {b : Nat} {D : va_G} {dA : Nat → ClassId} (hst : l.stackTraces = false) {a0 : Option Nat} {x1 : Int} {x2 : Int} {S : AS} {q : RS} (hx1 : inR x1) (hx2 : inR x2) (h : f_X6_pins a0 x1 x2 S = some q) : hp_M l b D dA yX6_pins cX6_pins 4 (some .int) 9 90 [rf b a0, iv x1, iv x2] S 1 q := by
  have hcat : ∀ v ∈ ([rf b a0, iv x1, iv x2] : List Value), v.category = 1 := (by intro v hv; simp only [List.mem_cons, List.not_mem_nil, or_false] at hv; rcases hv with rfl | rfl | rfl <;> first | exact cat_iv _ | exact cat_rf _ _)
  refine hp_ofJ (own := RX6) hst (by decide +kernel) rfl hcat (Nat.le_of_ble_eq_true rfl) ?_
  intro p e R s m args below meth c C hT hnm hr ls hl9
  have hl : hp_L ls 4 [(0, rf b a0), (1, iv x1), (2, iv x2)] := hp_L.of hl9 hcat
  unfold f_X6_pins at h
  refine j_iload_n C dX6_pins_0 rfl (hl.at 1 rfl) ?_
  refine j_aload_n C dX6_pins_1 rfl (hl.at 0 rfl) ?_
  obtain ⟨v1, g_v1, h⟩ := bd h
  refine j_gI C dX6_pins_2 fl_RX6_89 (Or.inl rfl) g_v1 (fun hv1 => ?_)
  rcases cI_some h with ⟨S2, v3, wv3, hc, h⟩ | ⟨hc, hne⟩
  · refine j_callI C (run_S (As := [iv x1, iv v1]) (rest := []) C (m_X6_isIn hst hx1 hv1 hc) cs_RX6_99 rfl hl.1.1 (by decide) (by decide) (by decide) dX6_pins_5) (fun hv3 => ?_)
    refine j_if_eq (tgt := 28) C dX6_pins_8 (by decide) hv3 (fun b1 => ?_) (fun b1 => ?_)
    · rw [if_pos b1] at h
      exact w_X6_pins_28 C hT hnm hr _ _ _ _ hx1 hx2 h ls (hl.sub [0, 1, 2] rfl)
    · rw [if_neg b1] at h
      refine j_iload_n C dX6_pins_11 rfl (hl.at 2 rfl) ?_
      refine j_aload_n C dX6_pins_12 rfl (hl.at 0 rfl) ?_
      obtain ⟨o4, g_o4, h⟩ := bd h
      refine j_gR C dX6_pins_13 fl_RX6_26 rfl g_o4 ?_
      refine j_iload_n C dX6_pins_16 rfl (hl.at 1 rfl) ?_
      obtain ⟨v5, g_v5, h⟩ := bd h
      refine j_iald C dX6_pins_17 hx1 g_v5 (fun hv5 => ?_)
      rcases cI_some h with ⟨S6, v7, wv7, hc, h⟩ | ⟨hc, hne⟩
      · refine j_callI C (run_S (As := [iv x2, iv v5]) (rest := []) C (m_X6_isIn hst hx2 hv5 hc) cs_RX6_99 rfl hl.1.1 (by decide) (by decide) (by decide) dX6_pins_18) (fun hv7 => ?_)
        refine j_if_eq (tgt := 28) C dX6_pins_21 (by decide) hv7 (fun b1 => ?_) (fun b1 => ?_)
        · rw [if_pos b1] at h
          exact w_X6_pins_28 C hT hnm hr _ _ _ _ hx1 hx2 h ls (hl.sub [0, 1, 2] rfl)
        · rw [if_neg b1] at h
          refine j_iconst C dX6_pins_24 ?_
          refine j_goto (tgt := 29) C dX6_pins_25 (by decide) ?_
          exact w_X6_pins_29 C hT hnm hr _ _ _ _ _ hx1 hx2 (by decide) h ls (hl.sub [0, 1, 2] rfl)
      · exact j_thrown C hT (run_S (As := [iv x2, iv v5]) (rest := []) C (m_X6_isIn hst hx2 hv5 hc) cs_RX6_99 rfl hl.1.1 (by decide) (by decide) (by decide) dX6_pins_18) hne
  · exact j_thrown C hT (run_S (As := [iv x1, iv v1]) (rest := []) C (m_X6_isIn hst hx1 hv1 hc) cs_RX6_99 rfl hl.1.1 (by decide) (by decide) (by decide) dX6_pins_5) hne
noncomputable def f_X6_pin_122 (n : Nat) (k80 : Option Nat → Int → Int → Int → Int → Int → AS → Option RS) (a0 : Option Nat) (x1 : Int) (x2 : Int) (x4 : Int) (x6 : Int) (x7 : Int) (x8 : Int) (x9 : Int) (S : AS) : Option RS := match n with
  | 0 => none
  | n + 1 =>
    if x8 ≤ x9 then
      (chk (x7 + 1)).bind fun z1 =>
      k80 a0 x1 x2 x4 x6 z1 S
    else
      (gR S a0 7 10).bind fun o2 =>
      cI (f_X6_at x1 x7 x9 S) fun v4 S3 =>
      (aI S3 o2 8 v4).bind fun v5 =>
      if v5 = x2 then
        if x6 = 0 then
          if x4 = 0 then
            rI x7 S3
          else
            if x4 = 1 then
              rI x9 S3
            else
              gd (isK S3 a0 7) <|
              cI (f_X6_drives a0 x1 x7 x9 S3) fun v10 S9 =>
              if v10 = 0 then
                rI 0 S9
              else
                rI 1 S9
        else
          (chk (x6 + (-1))).bind fun z7 =>
          (chk (x9 + 1)).bind fun z8 =>
          f_X6_pin_122 n k80 a0 x1 x2 x4 z7 x7 x8 z8 S3
      else
        (chk (x9 + 1)).bind fun z6 =>
        f_X6_pin_122 n k80 a0 x1 x2 x4 x6 x7 x8 z6 S3
set_option maxHeartbeats 4000000 in
set_option maxRecDepth 100000 in
theorem w_X6_pin_122 {p : Program} {l : Launch} {e : Env} {R : Room} {s : State} {m : MethodId} {args : Array Value} {below : List Frame} {meth : Method} {c : Code} {b : Nat} {D : va_G} {dA : Nat → ClassId} {S0 : AS} {q : RS} (C : hp_C p l e R s m args below meth c b D dA S0 RX6 cX6_pin 10 9 90) (hT : ∀ x ∈ c.exceptionTable.toList, False) (hnm : meth.name = "pin") (hr : meth.sig.returnType = (some .int)) {k80 : Option Nat → Int → Int → Int → Int → Int → AS → Option RS} (hk80 : ∀ (a0 : Option Nat) (x1 : Int) (x2 : Int) (x4 : Int) (x6 : Int) (x7 : Int) (S : AS), inR x1 → inR x2 → inR x4 → inR x6 → inR x7 → k80 a0 x1 x2 x4 x6 x7 S = some q → ∀ ls : Array Slot, hp_L ls 10 [(0, rf b a0), (1, iv x1), (2, iv x2), (4, iv x4), (6, iv x6), (7, iv x7)] → hp_J p l e R s m args below meth c b D dA S0 (hp_Q below b D dA S0 1 q args s) S 80 ls []) : ∀ (n : Nat), ∀ (a0 : Option Nat) (x1 : Int) (x2 : Int) (x4 : Int) (x6 : Int) (x7 : Int) (x8 : Int) (x9 : Int) (S : AS), inR x1 → inR x2 → inR x4 → inR x6 → inR x7 → inR x8 → inR x9 → f_X6_pin_122 n k80 a0 x1 x2 x4 x6 x7 x8 x9 S = some q → ∀ ls : Array Slot, hp_L ls 10 [(0, rf b a0), (1, iv x1), (2, iv x2), (4, iv x4), (6, iv x6), (7, iv x7), (8, iv x8), (9, iv x9)] → hp_J p l e R s m args below meth c b D dA S0 (hp_Q below b D dA S0 1 q args s) S 122 ls [] := by
  have hst : l.stackTraces = false := C.2.2.2.2.2.2.2.2.2.2.1
  intro n
  induction n with
  | zero =>
    intro a0 x1 x2 x4 x6 x7 x8 x9 S hx1 hx2 hx4 hx6 hx7 hx8 hx9 h
    cases h
  | succ n ih =>
    intro a0 x1 x2 x4 x6 x7 x8 x9 S hx1 hx2 hx4 hx6 hx7 hx8 hx9 h ls hl
    unfold f_X6_pin_122 at h
    refine j_iload C dX6_pin_122 (hl.at 7 rfl) ?_
    refine j_iload C dX6_pin_124 (hl.at 6 rfl) ?_
    refine j_icmp_ge (tgt := 199) C dX6_pin_126 (by decide) hx9 hx8 (fun b1 => ?_) (fun b1 => ?_)
    · rw [if_pos b1] at h
      obtain ⟨z1, g_z1, h⟩ := bd h
      refine k_iinc (k9 := 5) (lv' := [(7, iv z1), (0, rf b a0), (1, iv x1), (2, iv x2), (4, iv x4), (6, iv x6), (8, iv x8), (9, iv x9)]) C dX6_pin_199 hl rfl g_z1 (by decide) rfl (fun hz1 ls hl => ?_)
      refine j_goto (tgt := 80) C dX6_pin_202 (by decide) ?_
      exact hk80 _ _ _ _ _ _ _ hx1 hx2 hx4 hx6 hz1 h ls (hl.sub [1, 2, 3, 4, 5, 0] rfl)
    · rw [if_neg b1] at h
      refine j_aload_n C dX6_pin_129 rfl (hl.at 0 rfl) ?_
      obtain ⟨o2, g_o2, h⟩ := bd h
      refine j_gR C dX6_pin_130 fl_RX6_33 rfl g_o2 ?_
      refine j_iload_n C dX6_pin_133 rfl (hl.at 1 rfl) ?_
      refine j_iload C dX6_pin_134 (hl.at 5 rfl) ?_
      refine j_iload C dX6_pin_136 (hl.at 7 rfl) ?_
      rcases cI_some h with ⟨S3, v4, wv4, hc, h⟩ | ⟨hc, hne⟩
      · refine j_callI C (run_S (As := [iv x1, iv x7, iv x9]) (rest := [rf b o2]) C (m_X6_at hst hx1 hx7 hx9 hc) cs_RX6_125 rfl hl.1.1 (by simp [cat_iv, cat_rf]) (by decide) (by decide) dX6_pin_138) (fun hv4 => ?_)
        obtain ⟨v5, g_v5, h⟩ := bd h
        refine j_iald C dX6_pin_141 hv4 g_v5 (fun hv5 => ?_)
        refine j_iload_n C dX6_pin_142 rfl (hl.at 2 rfl) ?_
        refine j_icmp_ne (tgt := 193) C dX6_pin_143 (by decide) hv5 hx2 (fun b1 => ?_) (fun b1 => ?_)
        · rw [if_neg b1] at h
          obtain ⟨z6, g_z6, h⟩ := bd h
          refine k_iinc (k9 := 7) (lv' := [(9, iv z6), (0, rf b a0), (1, iv x1), (2, iv x2), (4, iv x4), (6, iv x6), (7, iv x7), (8, iv x8)]) C dX6_pin_193 hl rfl g_z6 (by decide) rfl (fun hz6 ls hl => ?_)
          refine j_goto (tgt := 122) C dX6_pin_196 (by decide) ?_
          exact ih _ _ _ _ _ _ _ _ _ hx1 hx2 hx4 hx6 hx7 hx8 hz6 h ls (hl.sub [1, 2, 3, 4, 5, 6, 7, 0] rfl)
        · rw [if_pos (Decidable.byContradiction b1)] at h
          refine j_iload C dX6_pin_146 (hl.at 4 rfl) ?_
          refine j_if_ne (tgt := 190) C dX6_pin_148 (by decide) hx6 (fun b1 => ?_) (fun b1 => ?_)
          · rw [if_neg b1] at h
            obtain ⟨z7, g_z7, h⟩ := bd h
            refine k_iinc (k9 := 4) (lv' := [(6, iv z7), (0, rf b a0), (1, iv x1), (2, iv x2), (4, iv x4), (7, iv x7), (8, iv x8), (9, iv x9)]) C dX6_pin_190 hl rfl g_z7 (by decide) rfl (fun hz7 ls hl => ?_)
            obtain ⟨z8, g_z8, h⟩ := bd h
            refine k_iinc (k9 := 7) (lv' := [(9, iv z8), (6, iv z7), (0, rf b a0), (1, iv x1), (2, iv x2), (4, iv x4), (7, iv x7), (8, iv x8)]) C dX6_pin_193 hl rfl g_z8 (by decide) rfl (fun hz8 ls hl => ?_)
            refine j_goto (tgt := 122) C dX6_pin_196 (by decide) ?_
            exact ih _ _ _ _ _ _ _ _ _ hx1 hx2 hx4 hz7 hx7 hx8 hz8 h ls (hl.sub [2, 3, 4, 5, 1, 6, 7, 0] rfl)
          · rw [if_pos (Decidable.byContradiction b1)] at h
            refine j_iload C dX6_pin_151 (hl.at 3 rfl) ?_
            refine j_if_ne (tgt := 161) C dX6_pin_153 (by decide) hx4 (fun b1 => ?_) (fun b1 => ?_)
            · rw [if_neg b1] at h
              refine j_iload C dX6_pin_161 (hl.at 3 rfl) ?_
              refine j_iconst C dX6_pin_163 ?_
              refine j_icmp_ne (tgt := 172) C dX6_pin_164 (by decide) hx4 (by decide) (fun b1 => ?_) (fun b1 => ?_)
              · rw [if_neg b1] at h
                refine j_aload_n C dX6_pin_172 rfl (hl.at 0 rfl) ?_
                refine j_iload_n C dX6_pin_173 rfl (hl.at 1 rfl) ?_
                refine j_iload C dX6_pin_174 (hl.at 5 rfl) ?_
                refine j_iload C dX6_pin_176 (hl.at 7 rfl) ?_
                obtain ⟨c11, h⟩ := gd_some h
                rcases cI_some h with ⟨S9, v10, wv10, hc, h⟩ | ⟨hc, hne⟩
                · refine j_callI C (run_W (As := [iv x1, iv x7, iv x9]) (rest := []) C (m_X6_drives hst hx1 hx7 hx9 hc) cv_RX6_132 (by decide) rfl c11 rfl hl (by decide) (by decide) (by decide) dX6_pin_178) (fun hv10 => ?_)
                  refine j_if_eq (tgt := 188) C dX6_pin_181 (by decide) hv10 (fun b1 => ?_) (fun b1 => ?_)
                  · rw [if_pos b1] at h
                    refine j_iconst C dX6_pin_188 ?_
                    exact j_iret C dX6_pin_189 hr (by decide) h
                  · rw [if_neg b1] at h
                    refine j_iconst C dX6_pin_184 ?_
                    refine j_goto (tgt := 189) C dX6_pin_185 (by decide) ?_
                    exact j_iret C dX6_pin_189 hr (by decide) h
                · exact j_thrown C hT (run_W (As := [iv x1, iv x7, iv x9]) (rest := []) C (m_X6_drives hst hx1 hx7 hx9 hc) cv_RX6_132 (by decide) rfl c11 rfl hl (by decide) (by decide) (by decide) dX6_pin_178) hne
              · rw [if_pos (Decidable.byContradiction b1)] at h
                refine j_iload C dX6_pin_167 (hl.at 7 rfl) ?_
                refine j_goto (tgt := 189) C dX6_pin_169 (by decide) ?_
                exact j_iret C dX6_pin_189 hr hx9 h
            · rw [if_pos (Decidable.byContradiction b1)] at h
              refine j_iload C dX6_pin_156 (hl.at 5 rfl) ?_
              refine j_goto (tgt := 189) C dX6_pin_158 (by decide) ?_
              exact j_iret C dX6_pin_189 hr hx7 h
      · exact j_thrown C hT (run_S (As := [iv x1, iv x7, iv x9]) (rest := [rf b o2]) C (m_X6_at hst hx1 hx7 hx9 hc) cs_RX6_125 rfl hl.1.1 (by simp [cat_iv, cat_rf]) (by decide) (by decide) dX6_pin_138) hne
noncomputable def f_X6_pin_114 (k80 : Option Nat → Int → Int → Int → Int → Int → AS → Option RS) (a0 : Option Nat) (x1 : Int) (x2 : Int) (x4 : Int) (x6 : Int) (x7 : Int) (t0 : Int) (u1 : Option Nat) (S : AS) : Option RS :=
  gd (isK S u1 7) <|
  cI (f_X6_ownPins u1 t0 S) fun v2 S1 =>
  f_X6_pin_122 FU k80 a0 x1 x2 x4 x6 x7 v2 0 S1
set_option maxHeartbeats 4000000 in
set_option maxRecDepth 100000 in
theorem w_X6_pin_114 {p : Program} {l : Launch} {e : Env} {R : Room} {s : State} {m : MethodId} {args : Array Value} {below : List Frame} {meth : Method} {c : Code} {b : Nat} {D : va_G} {dA : Nat → ClassId} {S0 : AS} {q : RS} (C : hp_C p l e R s m args below meth c b D dA S0 RX6 cX6_pin 10 9 90) (hT : ∀ x ∈ c.exceptionTable.toList, False) (hnm : meth.name = "pin") (hr : meth.sig.returnType = (some .int)) {k80 : Option Nat → Int → Int → Int → Int → Int → AS → Option RS} (hk80 : ∀ (a0 : Option Nat) (x1 : Int) (x2 : Int) (x4 : Int) (x6 : Int) (x7 : Int) (S : AS), inR x1 → inR x2 → inR x4 → inR x6 → inR x7 → k80 a0 x1 x2 x4 x6 x7 S = some q → ∀ ls : Array Slot, hp_L ls 10 [(0, rf b a0), (1, iv x1), (2, iv x2), (4, iv x4), (6, iv x6), (7, iv x7)] → hp_J p l e R s m args below meth c b D dA S0 (hp_Q below b D dA S0 1 q args s) S 80 ls []) : ∀ (a0 : Option Nat) (x1 : Int) (x2 : Int) (x4 : Int) (x6 : Int) (x7 : Int) (t0 : Int) (u1 : Option Nat) (S : AS), inR x1 → inR x2 → inR x4 → inR x6 → inR x7 → inR t0 → f_X6_pin_114 k80 a0 x1 x2 x4 x6 x7 t0 u1 S = some q → ∀ ls : Array Slot, hp_L ls 10 [(0, rf b a0), (1, iv x1), (2, iv x2), (4, iv x4), (6, iv x6), (7, iv x7)] → hp_J p l e R s m args below meth c b D dA S0 (hp_Q below b D dA S0 1 q args s) S 114 ls [iv t0, rf b u1] := by
  have hst : l.stackTraces = false := C.2.2.2.2.2.2.2.2.2.2.1
  intro a0 x1 x2 x4 x6 x7 t0 u1 S hx1 hx2 hx4 hx6 hx7 ht0 h ls hl
  unfold f_X6_pin_114 at h
  obtain ⟨c3, h⟩ := gd_some h
  rcases cI_some h with ⟨S1, v2, wv2, hc, h⟩ | ⟨hc, hne⟩
  · refine j_callI C (run_W (As := [iv t0]) (rest := []) C (m_X6_ownPins hst ht0 hc) cv_RX6_117 (by decide) rfl c3 rfl hl (by decide) (by decide) (by decide) dX6_pin_114) (fun hv2 => ?_)
    refine k_istore (lv' := [(8, iv v2), (0, rf b a0), (1, iv x1), (2, iv x2), (4, iv x4), (6, iv x6), (7, iv x7)]) C dX6_pin_117 hl (by decide) rfl (fun ls hl => ?_)
    refine j_iconst C dX6_pin_119 ?_
    refine k_istore (lv' := [(9, iv 0), (8, iv v2), (0, rf b a0), (1, iv x1), (2, iv x2), (4, iv x4), (6, iv x6), (7, iv x7)]) C dX6_pin_120 hl (by decide) rfl (fun ls hl => ?_)
    exact w_X6_pin_122 C hT hnm hr hk80 FU _ _ _ _ _ _ _ _ _ hx1 hx2 hx4 hx6 hx7 hv2 (by decide) h ls (hl.sub [2, 3, 4, 5, 6, 7, 1, 0] rfl)
  · exact j_thrown C hT (run_W (As := [iv t0]) (rest := []) C (m_X6_ownPins hst ht0 hc) cv_RX6_117 (by decide) rfl c3 rfl hl (by decide) (by decide) (by decide) dX6_pin_114) hne
noncomputable def f_X6_pin_80 (n : Nat) (a0 : Option Nat) (x1 : Int) (x2 : Int) (x4 : Int) (x6 : Int) (x7 : Int) (S : AS) : Option RS := match n with
  | 0 => none
  | n + 1 =>
    (gR S a0 7 5).bind fun o1 =>
    (aI S o1 8 x1).bind fun v2 =>
    if v2 ≤ x7 then
      rI 0 S
    else
      if x7 = (-1) then
        f_X6_pin_114 (f_X6_pin_80 n) a0 x1 x2 x4 x6 x7 x1 a0 S
      else
        (gR S a0 7 6).bind fun o3 =>
        (chk (64 * x1)).bind fun z4 =>
        (chk (z4 + x7)).bind fun z5 =>
        (aI S o3 8 z5).bind fun v6 =>
        f_X6_pin_114 (f_X6_pin_80 n) a0 x1 x2 x4 x6 x7 v6 a0 S
set_option maxHeartbeats 4000000 in
set_option maxRecDepth 100000 in
theorem w_X6_pin_80 {p : Program} {l : Launch} {e : Env} {R : Room} {s : State} {m : MethodId} {args : Array Value} {below : List Frame} {meth : Method} {c : Code} {b : Nat} {D : va_G} {dA : Nat → ClassId} {S0 : AS} {q : RS} (C : hp_C p l e R s m args below meth c b D dA S0 RX6 cX6_pin 10 9 90) (hT : ∀ x ∈ c.exceptionTable.toList, False) (hnm : meth.name = "pin") (hr : meth.sig.returnType = (some .int)) : ∀ (n : Nat), ∀ (a0 : Option Nat) (x1 : Int) (x2 : Int) (x4 : Int) (x6 : Int) (x7 : Int) (S : AS), inR x1 → inR x2 → inR x4 → inR x6 → inR x7 → f_X6_pin_80 n a0 x1 x2 x4 x6 x7 S = some q → ∀ ls : Array Slot, hp_L ls 10 [(0, rf b a0), (1, iv x1), (2, iv x2), (4, iv x4), (6, iv x6), (7, iv x7)] → hp_J p l e R s m args below meth c b D dA S0 (hp_Q below b D dA S0 1 q args s) S 80 ls [] := by
  have hst : l.stackTraces = false := C.2.2.2.2.2.2.2.2.2.2.1
  intro n
  induction n with
  | zero =>
    intro a0 x1 x2 x4 x6 x7 S hx1 hx2 hx4 hx6 hx7 h
    cases h
  | succ n ih =>
    intro a0 x1 x2 x4 x6 x7 S hx1 hx2 hx4 hx6 hx7 h ls hl
    unfold f_X6_pin_80 at h
    refine j_iload C dX6_pin_80 (hl.at 5 rfl) ?_
    refine j_aload_n C dX6_pin_82 rfl (hl.at 0 rfl) ?_
    obtain ⟨o1, g_o1, h⟩ := bd h
    refine j_gR C dX6_pin_83 fl_RX6_20 rfl g_o1 ?_
    refine j_iload_n C dX6_pin_86 rfl (hl.at 1 rfl) ?_
    obtain ⟨v2, g_v2, h⟩ := bd h
    refine j_iald C dX6_pin_87 hx1 g_v2 (fun hv2 => ?_)
    refine j_icmp_ge (tgt := 205) C dX6_pin_88 (by decide) hx7 hv2 (fun b1 => ?_) (fun b1 => ?_)
    · rw [if_pos b1] at h
      refine j_iconst C dX6_pin_205 ?_
      exact j_iret C dX6_pin_206 hr (by decide) h
    · rw [if_neg b1] at h
      refine j_aload_n C dX6_pin_91 rfl (hl.at 0 rfl) ?_
      refine j_iload C dX6_pin_92 (hl.at 5 rfl) ?_
      refine j_iconst C dX6_pin_94 ?_
      refine j_icmp_ne (tgt := 102) C dX6_pin_95 (by decide) hx7 (by decide) (fun b1 => ?_) (fun b1 => ?_)
      · rw [if_neg b1] at h
        refine j_aload_n C dX6_pin_102 rfl (hl.at 0 rfl) ?_
        obtain ⟨o3, g_o3, h⟩ := bd h
        refine j_gR C dX6_pin_103 fl_RX6_23 rfl g_o3 ?_
        refine j_bipush (x := 64) C dX6_pin_106 (by decide) ?_
        refine j_iload_n C dX6_pin_108 rfl (hl.at 1 rfl) ?_
        obtain ⟨z4, g_z4, h⟩ := bd h
        refine j_imul C dX6_pin_109 g_z4 (fun hz4 => ?_)
        refine j_iload C dX6_pin_110 (hl.at 5 rfl) ?_
        obtain ⟨z5, g_z5, h⟩ := bd h
        refine j_iadd C dX6_pin_112 g_z5 (fun hz5 => ?_)
        obtain ⟨v6, g_v6, h⟩ := bd h
        refine j_iald C dX6_pin_113 hz5 g_v6 (fun hv6 => ?_)
        exact w_X6_pin_114 C hT hnm hr ih _ _ _ _ _ _ _ _ _ hx1 hx2 hx4 hx6 hx7 hv6 h ls (hl.sub [0, 1, 2, 3, 4, 5] rfl)
      · rw [if_pos (Decidable.byContradiction b1)] at h
        refine j_iload_n C dX6_pin_98 rfl (hl.at 1 rfl) ?_
        refine j_goto (tgt := 114) C dX6_pin_99 (by decide) ?_
        exact w_X6_pin_114 C hT hnm hr ih _ _ _ _ _ _ _ _ _ hx1 hx2 hx4 hx6 hx7 hx1 h ls (hl.sub [0, 1, 2, 3, 4, 5] rfl)
noncomputable def f_X6_pin_65 (a0 : Option Nat) (x1 : Int) (x2 : Int) (x3 : Int) (x4 : Int) (t0 : Int) (u1 : Option Nat) (S : AS) : Option RS :=
  gd (isK S u1 7) <|
  cI (f_X6_refused u1 t0 0 S) fun v2 S1 =>
  if v2 = 0 then
    f_X6_pin_80 FU a0 x1 x2 x4 x3 (-1) S1
  else
    rI 0 S1
set_option maxHeartbeats 4000000 in
set_option maxRecDepth 100000 in
theorem w_X6_pin_65 {p : Program} {l : Launch} {e : Env} {R : Room} {s : State} {m : MethodId} {args : Array Value} {below : List Frame} {meth : Method} {c : Code} {b : Nat} {D : va_G} {dA : Nat → ClassId} {S0 : AS} {q : RS} (C : hp_C p l e R s m args below meth c b D dA S0 RX6 cX6_pin 10 9 90) (hT : ∀ x ∈ c.exceptionTable.toList, False) (hnm : meth.name = "pin") (hr : meth.sig.returnType = (some .int)) : ∀ (a0 : Option Nat) (x1 : Int) (x2 : Int) (x3 : Int) (x4 : Int) (t0 : Int) (u1 : Option Nat) (S : AS), inR x1 → inR x2 → inR x3 → inR x4 → inR t0 → f_X6_pin_65 a0 x1 x2 x3 x4 t0 u1 S = some q → ∀ ls : Array Slot, hp_L ls 10 [(0, rf b a0), (1, iv x1), (2, iv x2), (3, iv x3), (4, iv x4)] → hp_J p l e R s m args below meth c b D dA S0 (hp_Q below b D dA S0 1 q args s) S 65 ls [iv t0, rf b u1] := by
  have hst : l.stackTraces = false := C.2.2.2.2.2.2.2.2.2.2.1
  intro a0 x1 x2 x3 x4 t0 u1 S hx1 hx2 hx3 hx4 ht0 h ls hl
  unfold f_X6_pin_65 at h
  refine j_iconst C dX6_pin_65 ?_
  obtain ⟨c3, h⟩ := gd_some h
  rcases cI_some h with ⟨S1, v2, wv2, hc, h⟩ | ⟨hc, hne⟩
  · refine j_callI C (run_W (As := [iv t0, iv 0]) (rest := []) C (m_X6_refused hst ht0 (by decide) hc) cv_RX6_107 (by decide) rfl c3 rfl hl (by decide) (by decide) (by decide) dX6_pin_66) (fun hv2 => ?_)
    refine j_if_eq (tgt := 74) C dX6_pin_69 (by decide) hv2 (fun b1 => ?_) (fun b1 => ?_)
    · rw [if_pos b1] at h
      refine j_iload_n C dX6_pin_74 rfl (hl.at 3 rfl) ?_
      refine k_istore (lv' := [(6, iv x3), (0, rf b a0), (1, iv x1), (2, iv x2), (3, iv x3), (4, iv x4)]) C dX6_pin_75 hl (by decide) rfl (fun ls hl => ?_)
      refine j_iconst C dX6_pin_77 ?_
      refine k_istore (lv' := [(7, iv (-1)), (6, iv x3), (0, rf b a0), (1, iv x1), (2, iv x2), (3, iv x3), (4, iv x4)]) C dX6_pin_78 hl (by decide) rfl (fun ls hl => ?_)
      exact w_X6_pin_80 C hT hnm hr FU _ _ _ _ _ _ _ hx1 hx2 hx4 hx3 (by decide) h ls (hl.sub [2, 3, 4, 6, 1, 0] rfl)
    · rw [if_neg b1] at h
      refine j_iconst C dX6_pin_72 ?_
      exact j_iret C dX6_pin_73 hr (by decide) h
  · exact j_thrown C hT (run_W (As := [iv t0, iv 0]) (rest := []) C (m_X6_refused hst ht0 (by decide) hc) cv_RX6_107 (by decide) rfl c3 rfl hl (by decide) (by decide) (by decide) dX6_pin_66) hne
noncomputable def f_X6_pin_52 (a0 : Option Nat) (x1 : Int) (x2 : Int) (x3 : Int) (x4 : Int) (t0 : Int) (S : AS) : Option RS :=
  if t0 = 0 then
    f_X6_pin_65 a0 x1 x2 x3 x4 1 a0 S
  else
    f_X6_pin_65 a0 x1 x2 x3 x4 0 a0 S
set_option maxHeartbeats 4000000 in
set_option maxRecDepth 100000 in
theorem w_X6_pin_52 {p : Program} {l : Launch} {e : Env} {R : Room} {s : State} {m : MethodId} {args : Array Value} {below : List Frame} {meth : Method} {c : Code} {b : Nat} {D : va_G} {dA : Nat → ClassId} {S0 : AS} {q : RS} (C : hp_C p l e R s m args below meth c b D dA S0 RX6 cX6_pin 10 9 90) (hT : ∀ x ∈ c.exceptionTable.toList, False) (hnm : meth.name = "pin") (hr : meth.sig.returnType = (some .int)) : ∀ (a0 : Option Nat) (x1 : Int) (x2 : Int) (x3 : Int) (x4 : Int) (t0 : Int) (S : AS), inR x1 → inR x2 → inR x3 → inR x4 → inR t0 → f_X6_pin_52 a0 x1 x2 x3 x4 t0 S = some q → ∀ ls : Array Slot, hp_L ls 10 [(0, rf b a0), (1, iv x1), (2, iv x2), (3, iv x3), (4, iv x4)] → hp_J p l e R s m args below meth c b D dA S0 (hp_Q below b D dA S0 1 q args s) S 52 ls [iv t0] := by
  have hst : l.stackTraces = false := C.2.2.2.2.2.2.2.2.2.2.1
  intro a0 x1 x2 x3 x4 t0 S hx1 hx2 hx3 hx4 ht0 h ls hl
  unfold f_X6_pin_52 at h
  refine k_istore (lv' := [(5, iv t0), (0, rf b a0), (1, iv x1), (2, iv x2), (3, iv x3), (4, iv x4)]) C dX6_pin_52 hl (by decide) rfl (fun ls hl => ?_)
  refine j_aload_n C dX6_pin_54 rfl (hl.at 1 rfl) ?_
  refine j_iload C dX6_pin_55 (hl.at 0 rfl) ?_
  refine j_if_ne (tgt := 64) C dX6_pin_57 (by decide) ht0 (fun b1 => ?_) (fun b1 => ?_)
  · rw [if_neg b1] at h
    refine j_iconst C dX6_pin_64 ?_
    exact w_X6_pin_65 C hT hnm hr _ _ _ _ _ _ _ _ hx1 hx2 hx3 hx4 (by decide) h ls (hl.sub [1, 2, 3, 4, 5] rfl)
  · rw [if_pos (Decidable.byContradiction b1)] at h
    refine j_iconst C dX6_pin_60 ?_
    refine j_goto (tgt := 65) C dX6_pin_61 (by decide) ?_
    exact w_X6_pin_65 C hT hnm hr _ _ _ _ _ _ _ _ hx1 hx2 hx3 hx4 (by decide) h ls (hl.sub [1, 2, 3, 4, 5] rfl)
noncomputable def f_X6_pin_51 (a0 : Option Nat) (x1 : Int) (x2 : Int) (x3 : Int) (x4 : Int) (S : AS) : Option RS :=
  f_X6_pin_52 a0 x1 x2 x3 x4 0 S
set_option maxHeartbeats 4000000 in
set_option maxRecDepth 100000 in
theorem w_X6_pin_51 {p : Program} {l : Launch} {e : Env} {R : Room} {s : State} {m : MethodId} {args : Array Value} {below : List Frame} {meth : Method} {c : Code} {b : Nat} {D : va_G} {dA : Nat → ClassId} {S0 : AS} {q : RS} (C : hp_C p l e R s m args below meth c b D dA S0 RX6 cX6_pin 10 9 90) (hT : ∀ x ∈ c.exceptionTable.toList, False) (hnm : meth.name = "pin") (hr : meth.sig.returnType = (some .int)) : ∀ (a0 : Option Nat) (x1 : Int) (x2 : Int) (x3 : Int) (x4 : Int) (S : AS), inR x1 → inR x2 → inR x3 → inR x4 → f_X6_pin_51 a0 x1 x2 x3 x4 S = some q → ∀ ls : Array Slot, hp_L ls 10 [(0, rf b a0), (1, iv x1), (2, iv x2), (3, iv x3), (4, iv x4)] → hp_J p l e R s m args below meth c b D dA S0 (hp_Q below b D dA S0 1 q args s) S 51 ls [] := by
  have hst : l.stackTraces = false := C.2.2.2.2.2.2.2.2.2.2.1
  intro a0 x1 x2 x3 x4 S hx1 hx2 hx3 hx4 h ls hl
  unfold f_X6_pin_51 at h
  refine j_iconst C dX6_pin_51 ?_
  exact w_X6_pin_52 C hT hnm hr _ _ _ _ _ _ _ hx1 hx2 hx3 hx4 (by decide) h ls (hl.sub [0, 1, 2, 3, 4] rfl)
noncomputable def f_X6_pin (a0 : Option Nat) (x1 : Int) (x2 : Int) (x3 : Int) (x4 : Int) (S : AS) : Option RS :=
  (gI S a0 7 1).bind fun v1 =>
  cI (f_X6_isIn x1 v1 S) fun v3 S2 =>
  if v3 = 0 then
    f_X6_pin_51 a0 x1 x2 x3 x4 S2
  else
    (gR S2 a0 7 7).bind fun o4 =>
    (aI S2 o4 8 x1).bind fun v5 =>
    cI (f_X6_isIn x2 v5 S2) fun v7 S6 =>
    if v7 = 0 then
      f_X6_pin_51 a0 x1 x2 x3 x4 S6
    else
      cI (f_X6_isIn x4 3 S6) fun v9 S8 =>
      if v9 = 0 then
        f_X6_pin_51 a0 x1 x2 x3 x4 S8
      else
        gd (isK S8 a0 7) <|
        cI (f_X6_countPins a0 x1 x2 0 S8) fun v11 S10 =>
        cI (f_X6_isIn x3 v11 S10) fun v14 S13 =>
        if v14 = 0 then
          f_X6_pin_51 a0 x1 x2 x3 x4 S13
        else
          f_X6_pin_52 a0 x1 x2 x3 x4 1 S13
set_option maxHeartbeats 4000000 in
set_option maxRecDepth 100000 in
theorem m_X6_pin {l : Launch} {b : Nat} {D : va_G} {dA : Nat → ClassId} (hst : l.stackTraces = false) {a0 : Option Nat} {x1 : Int} {x2 : Int} {x3 : Int} {x4 : Int} {S : AS} {q : RS} (hx1 : inR x1) (hx2 : inR x2) (hx3 : inR x3) (hx4 : inR x4) (h : f_X6_pin a0 x1 x2 x3 x4 S = some q) : hp_M l b D dA yX6_pin cX6_pin 10 (some .int) 9 90 [rf b a0, iv x1, iv x2, iv x3, iv x4] S 1 q := by
  have hcat : ∀ v ∈ ([rf b a0, iv x1, iv x2, iv x3, iv x4] : List Value), v.category = 1 := (by intro v hv; simp only [List.mem_cons, List.not_mem_nil, or_false] at hv; rcases hv with rfl | rfl | rfl | rfl | rfl <;> first | exact cat_iv _ | exact cat_rf _ _)
  refine hp_ofJ (own := RX6) hst (by decide +kernel) rfl hcat (Nat.le_of_ble_eq_true rfl) ?_
  intro p e R s m args below meth c C hT hnm hr ls hl9
  have hl : hp_L ls 10 [(0, rf b a0), (1, iv x1), (2, iv x2), (3, iv x3), (4, iv x4)] := hp_L.of hl9 hcat
  unfold f_X6_pin at h
  refine j_iload_n C dX6_pin_0 rfl (hl.at 1 rfl) ?_
  refine j_aload_n C dX6_pin_1 rfl (hl.at 0 rfl) ?_
  obtain ⟨v1, g_v1, h⟩ := bd h
  refine j_gI C dX6_pin_2 fl_RX6_89 (Or.inl rfl) g_v1 (fun hv1 => ?_)
  rcases cI_some h with ⟨S2, v3, wv3, hc, h⟩ | ⟨hc, hne⟩
  · refine j_callI C (run_S (As := [iv x1, iv v1]) (rest := []) C (m_X6_isIn hst hx1 hv1 hc) cs_RX6_99 rfl hl.1.1 (by decide) (by decide) (by decide) dX6_pin_5) (fun hv3 => ?_)
    refine j_if_eq (tgt := 51) C dX6_pin_8 (by decide) hv3 (fun b1 => ?_) (fun b1 => ?_)
    · rw [if_pos b1] at h
      exact w_X6_pin_51 C hT hnm hr _ _ _ _ _ _ hx1 hx2 hx3 hx4 h ls (hl.sub [0, 1, 2, 3, 4] rfl)
    · rw [if_neg b1] at h
      refine j_iload_n C dX6_pin_11 rfl (hl.at 2 rfl) ?_
      refine j_aload_n C dX6_pin_12 rfl (hl.at 0 rfl) ?_
      obtain ⟨o4, g_o4, h⟩ := bd h
      refine j_gR C dX6_pin_13 fl_RX6_26 rfl g_o4 ?_
      refine j_iload_n C dX6_pin_16 rfl (hl.at 1 rfl) ?_
      obtain ⟨v5, g_v5, h⟩ := bd h
      refine j_iald C dX6_pin_17 hx1 g_v5 (fun hv5 => ?_)
      rcases cI_some h with ⟨S6, v7, wv7, hc, h⟩ | ⟨hc, hne⟩
      · refine j_callI C (run_S (As := [iv x2, iv v5]) (rest := []) C (m_X6_isIn hst hx2 hv5 hc) cs_RX6_99 rfl hl.1.1 (by decide) (by decide) (by decide) dX6_pin_18) (fun hv7 => ?_)
        refine j_if_eq (tgt := 51) C dX6_pin_21 (by decide) hv7 (fun b1 => ?_) (fun b1 => ?_)
        · rw [if_pos b1] at h
          exact w_X6_pin_51 C hT hnm hr _ _ _ _ _ _ hx1 hx2 hx3 hx4 h ls (hl.sub [0, 1, 2, 3, 4] rfl)
        · rw [if_neg b1] at h
          refine j_iload C dX6_pin_24 (hl.at 4 rfl) ?_
          refine j_iconst C dX6_pin_26 ?_
          rcases cI_some h with ⟨S8, v9, wv9, hc, h⟩ | ⟨hc, hne⟩
          · refine j_callI C (run_S (As := [iv x4, iv 3]) (rest := []) C (m_X6_isIn hst hx4 (by decide) hc) cs_RX6_99 rfl hl.1.1 (by decide) (by decide) (by decide) dX6_pin_27) (fun hv9 => ?_)
            refine j_if_eq (tgt := 51) C dX6_pin_30 (by decide) hv9 (fun b1 => ?_) (fun b1 => ?_)
            · rw [if_pos b1] at h
              exact w_X6_pin_51 C hT hnm hr _ _ _ _ _ _ hx1 hx2 hx3 hx4 h ls (hl.sub [0, 1, 2, 3, 4] rfl)
            · rw [if_neg b1] at h
              refine j_iload_n C dX6_pin_33 rfl (hl.at 3 rfl) ?_
              refine j_aload_n C dX6_pin_34 rfl (hl.at 0 rfl) ?_
              refine j_iload_n C dX6_pin_35 rfl (hl.at 1 rfl) ?_
              refine j_iload_n C dX6_pin_36 rfl (hl.at 2 rfl) ?_
              refine j_iconst C dX6_pin_37 ?_
              obtain ⟨c12, h⟩ := gd_some h
              rcases cI_some h with ⟨S10, v11, wv11, hc, h⟩ | ⟨hc, hne⟩
              · refine j_callI C (run_W (As := [iv x1, iv x2, iv 0]) (rest := [iv x3]) C (m_X6_countPins hst hx1 hx2 (by decide) hc) cv_RX6_135 (by decide) rfl c12 rfl hl (by simp [cat_iv, cat_rf]) (by decide) (by decide) dX6_pin_38) (fun hv11 => ?_)
                rcases cI_some h with ⟨S13, v14, wv14, hc, h⟩ | ⟨hc, hne⟩
                · refine j_callI C (run_S (As := [iv x3, iv v11]) (rest := []) C (m_X6_isIn hst hx3 hv11 hc) cs_RX6_99 rfl hl.1.1 (by decide) (by decide) (by decide) dX6_pin_41) (fun hv14 => ?_)
                  refine j_if_eq (tgt := 51) C dX6_pin_44 (by decide) hv14 (fun b1 => ?_) (fun b1 => ?_)
                  · rw [if_pos b1] at h
                    exact w_X6_pin_51 C hT hnm hr _ _ _ _ _ _ hx1 hx2 hx3 hx4 h ls (hl.sub [0, 1, 2, 3, 4] rfl)
                  · rw [if_neg b1] at h
                    refine j_iconst C dX6_pin_47 ?_
                    refine j_goto (tgt := 52) C dX6_pin_48 (by decide) ?_
                    exact w_X6_pin_52 C hT hnm hr _ _ _ _ _ _ _ hx1 hx2 hx3 hx4 (by decide) h ls (hl.sub [0, 1, 2, 3, 4] rfl)
                · exact j_thrown C hT (run_S (As := [iv x3, iv v11]) (rest := []) C (m_X6_isIn hst hx3 hv11 hc) cs_RX6_99 rfl hl.1.1 (by decide) (by decide) (by decide) dX6_pin_41) hne
              · exact j_thrown C hT (run_W (As := [iv x1, iv x2, iv 0]) (rest := [iv x3]) C (m_X6_countPins hst hx1 hx2 (by decide) hc) cv_RX6_135 (by decide) rfl c12 rfl hl (by simp [cat_iv, cat_rf]) (by decide) (by decide) dX6_pin_38) hne
          · exact j_thrown C hT (run_S (As := [iv x4, iv 3]) (rest := []) C (m_X6_isIn hst hx4 (by decide) hc) cs_RX6_99 rfl hl.1.1 (by decide) (by decide) (by decide) dX6_pin_27) hne
      · exact j_thrown C hT (run_S (As := [iv x2, iv v5]) (rest := []) C (m_X6_isIn hst hx2 hv5 hc) cs_RX6_99 rfl hl.1.1 (by decide) (by decide) (by decide) dX6_pin_18) hne
  · exact j_thrown C hT (run_S (As := [iv x1, iv v1]) (rest := []) C (m_X6_isIn hst hx1 hv1 hc) cs_RX6_99 rfl hl.1.1 (by decide) (by decide) (by decide) dX6_pin_5) hne
