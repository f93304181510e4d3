noncomputable def f_J7_fill_53178_5 (n : Nat) (a0 : Option Nat) (x1 : Int) (x2 : Int) (x3 : Int) (S : AS) : Option RS := match n with
  | 0 => none
  | n + 1 =>
    if x3 ≤ x2 then
      rV S
    else
      (sI S a0 8 x2 x1).bind fun S1 =>
      (chk (x2 + 1)).bind fun z2 =>
      f_J7_fill_53178_5 n a0 x1 z2 x3 S1
set_option maxHeartbeats 4000000 in
set_option maxRecDepth 100000 in
theorem w_J7_fill_53178_5 {p : Program} {l : Launch} {e : Env} {R : Room} {s : State} {m : MethodId} {args : Array Value} {below : List Frame} {meth : Method} {c : Code} {b : Nat} {D : va_G} {dA : Nat → ClassId} {S0 : AS} {q : RS} (C : hp_C p l e R s m args below meth c b D dA S0 RJ7 cJ7_fill_53178 4 6 16) (hT : ∀ x ∈ c.exceptionTable.toList, False) (hnm : meth.name = "fill") (hr : meth.sig.returnType = none) : ∀ (n : Nat), ∀ (a0 : Option Nat) (x1 : Int) (x2 : Int) (x3 : Int) (S : AS), inR x1 → inR x2 → inR x3 → f_J7_fill_53178_5 n a0 x1 x2 x3 S = some q → ∀ ls : Array Slot, hp_L ls 4 [(0, rf b a0), (1, iv x1), (2, iv x2), (3, iv x3)] → hp_J p l e R s m args below meth c b D dA S0 (hp_Q below b D dA S0 0 q args s) S 5 ls [] := by
  have hst : l.stackTraces = false := C.2.2.2.2.2.2.2.2.2.2.1
  intro n
  induction n with
  | zero =>
    intro a0 x1 x2 x3 S hx1 hx2 hx3 h
    cases h
  | succ n ih =>
    intro a0 x1 x2 x3 S hx1 hx2 hx3 h ls hl
    unfold f_J7_fill_53178_5 at h
    refine j_iload_n C dJ7_fill_53178_5 rfl (hl.at 2 rfl) ?_
    refine j_iload_n C dJ7_fill_53178_6 rfl (hl.at 3 rfl) ?_
    refine j_icmp_ge (tgt := 20) C dJ7_fill_53178_7 (by decide) hx2 hx3 (fun b1 => ?_) (fun b1 => ?_)
    · rw [if_pos b1] at h
      exact j_vret C dJ7_fill_53178_20 hr h
    · rw [if_neg b1] at h
      refine j_aload_n C dJ7_fill_53178_10 rfl (hl.at 0 rfl) ?_
      refine j_iload_n C dJ7_fill_53178_11 rfl (hl.at 2 rfl) ?_
      refine j_iload_n C dJ7_fill_53178_12 rfl (hl.at 1 rfl) ?_
      obtain ⟨S1, g_S1, h⟩ := bd h
      refine j_iast C dJ7_fill_53178_13 hx2 hx1 g_S1 ?_
      obtain ⟨z2, g_z2, h⟩ := bd h
      refine k_iinc (k9 := 2) (lv' := [(2, iv z2), (0, rf b a0), (1, iv x1), (3, iv x3)]) C dJ7_fill_53178_14 hl rfl g_z2 (by decide) rfl (fun hz2 ls hl => ?_)
      refine j_goto (tgt := 5) C dJ7_fill_53178_17 (by decide) ?_
      exact ih _ _ _ _ _ hx1 hz2 hx3 h ls (hl.sub [1, 2, 0, 3] rfl)
noncomputable def f_J7_fill_53178 (a0 : Option Nat) (x1 : Int) (S : AS) : Option RS :=
  (ln S a0 8).bind fun v1 =>
  f_J7_fill_53178_5 FU a0 x1 0 v1 S
set_option maxHeartbeats 4000000 in
set_option maxRecDepth 100000 in
theorem m_J7_fill_53178 {l : Launch} {b : Nat} {D : va_G} {dA : Nat → ClassId} (hst : l.stackTraces = false) {a0 : Option Nat} {x1 : Int} {S : AS} {q : RS} (hx1 : inR x1) (h : f_J7_fill_53178 a0 x1 S = some q) : hp_M l b D dA yJ7_fill_53178 cJ7_fill_53178 4 none 6 16 [rf b a0, iv x1] S 0 q := by
  have hcat : ∀ v ∈ ([rf b a0, iv x1] : List Value), v.category = 1 := (by intro v hv; simp only [List.mem_cons, List.not_mem_nil, or_false] at hv; rcases hv with rfl | rfl <;> first | exact cat_iv _ | exact cat_rf _ _)
  refine hp_ofJ (own := RJ7) hst (by decide +kernel) rfl hcat (Nat.le_of_ble_eq_true rfl) ?_
  intro p e R s m args below meth c C hT hnm hr ls hl9
  have hl : hp_L ls 4 [(0, rf b a0), (1, iv x1)] := hp_L.of hl9 hcat
  unfold f_J7_fill_53178 at h
  refine j_iconst C dJ7_fill_53178_0 ?_
  refine k_istore_n (lv' := [(2, iv 0), (0, rf b a0), (1, iv x1)]) C dJ7_fill_53178_1 rfl hl (by decide) rfl (fun ls hl => ?_)
  refine j_aload_n C dJ7_fill_53178_2 rfl (hl.at 1 rfl) ?_
  obtain ⟨v1, g_v1, h⟩ := bd h
  refine j_alen C dJ7_fill_53178_3 (by decide) g_v1 (fun hv1 => ?_)
  refine k_istore_n (lv' := [(3, iv v1), (2, iv 0), (0, rf b a0), (1, iv x1)]) C dJ7_fill_53178_4 rfl hl (by decide) rfl (fun ls hl => ?_)
  exact w_J7_fill_53178_5 C hT hnm hr FU _ _ _ _ _ hx1 (by decide) hv1 h ls (hl.sub [2, 3, 1, 0] rfl)
noncomputable def f_J7_copyOf_59c91 (a0 : Option Nat) (x1 : Int) (S : AS) : Option RS :=
  (ln S a0 8).bind fun v1 =>
  if x1 = v1 then
    (kln S a0).bind fun S6 =>
    gd (isK S6 (some (hn S)) 8) <|
    rR (some (hn S)) S6
  else
    (nA S 8 x1).bind fun S2 =>
    (ln S2 a0 8).bind fun v3 =>
    (some (if x1 < v3 then x1 else v3)).bind fun z4 =>
    (cpy S2 a0 0 (some (hn S)) 0 z4 8).bind fun S5 =>
    rR (some (hn S)) S5
set_option maxHeartbeats 4000000 in
set_option maxRecDepth 100000 in
theorem m_J7_copyOf_59c91 {l : Launch} {b : Nat} {D : va_G} {dA : Nat → ClassId} (hst : l.stackTraces = false) {a0 : Option Nat} {x1 : Int} {S : AS} {q : RS} (hx1 : inR x1) (h : f_J7_copyOf_59c91 a0 x1 S = some q) : hp_M l b D dA yJ7_copyOf_59c91 cJ7_copyOf_59c91 3 (some (.array .int)) 6 80 [rf b a0, iv x1] S 2 q := by
  have hcat : ∀ v ∈ ([rf b a0, iv x1] : List Value), v.category = 1 := (by intro v hv; simp only [List.mem_cons, List.not_mem_nil, or_false] at hv; rcases hv with rfl | rfl <;> first | exact cat_iv _ | exact cat_rf _ _)
  refine hp_ofJ (own := RJ7) hst (by decide +kernel) rfl hcat (Nat.le_of_ble_eq_true rfl) ?_
  intro p e R s m args below meth c C hT hnm hr ls hl9
  have hl : hp_L ls 3 [(0, rf b a0), (1, iv x1)] := hp_L.of hl9 hcat
  unfold f_J7_copyOf_59c91 at h
  refine j_iload_n C dJ7_copyOf_59c91_0 rfl (hl.at 1 rfl) ?_
  refine j_aload_n C dJ7_copyOf_59c91_1 rfl (hl.at 0 rfl) ?_
  obtain ⟨v1, g_v1, h⟩ := bd h
  refine j_alen C dJ7_copyOf_59c91_2 (by decide) g_v1 (fun hv1 => ?_)
  refine j_icmp_ne (tgt := 14) C dJ7_copyOf_59c91_3 (by decide) hx1 hv1 (fun b1 => ?_) (fun b1 => ?_)
  · rw [if_neg b1] at h
    refine j_iload_n C dJ7_copyOf_59c91_14 rfl (hl.at 1 rfl) ?_
    obtain ⟨S2, g_S2, h⟩ := bd h
    refine j_newa C dJ7_copyOf_59c91_15 (Or.inl ⟨rfl, rfl⟩) ac_8 hx1 g_S2 ?_
    refine k_astore_n (lv' := [(2, rf b (some (hn S))), (0, rf b a0), (1, iv x1)]) C dJ7_copyOf_59c91_17 rfl hl (by decide) rfl (fun ls hl => ?_)
    refine j_aload_n C dJ7_copyOf_59c91_18 rfl (hl.at 1 rfl) ?_
    refine j_iconst C dJ7_copyOf_59c91_19 ?_
    refine j_aload_n C dJ7_copyOf_59c91_20 rfl (hl.at 0 rfl) ?_
    refine j_iconst C dJ7_copyOf_59c91_21 ?_
    refine j_aload_n C dJ7_copyOf_59c91_22 rfl (hl.at 1 rfl) ?_
    obtain ⟨v3, g_v3, h⟩ := bd h
    refine j_alen C dJ7_copyOf_59c91_23 (by decide) g_v3 (fun hv3 => ?_)
    refine j_iload_n C dJ7_copyOf_59c91_24 rfl (hl.at 2 rfl) ?_
    rw [Option.bind_some] at h
    have hz4 : inR (if x1 < v3 then x1 else v3) := by split <;> first | assumption | decide
    refine j_min C dJ7_copyOf_59c91_25 hv3 hx1 mt_RJ7_304 mt_min_s mt_i mt_min_c hl.1.1 (by decide) (by first | decide | (simp [cat_iv, cat_rf]; omega) | simp [cat_iv, cat_rf]) ?_
    generalize (if x1 < v3 then x1 else v3) = z4 at h hz4 ⊢
    obtain ⟨S5, g_S5, h⟩ := bd h
    refine j_copy C dJ7_copyOf_59c91_28 (by decide) (by decide) (by decide) hz4 cp_RJ7_150 cp_n cp_s cp_i hl.1.1 (by decide) (by decide) g_S5 ?_
    refine j_aload_n C dJ7_copyOf_59c91_31 rfl (hl.at 0 rfl) ?_
    exact j_aret C dJ7_copyOf_59c91_32 hr rfl h
  · rw [if_pos (Decidable.byContradiction b1)] at h
    refine j_aload_n C dJ7_copyOf_59c91_6 rfl (hl.at 0 rfl) ?_
    obtain ⟨S6, g_S6, h⟩ := bd h
    refine j_clone C dJ7_copyOf_59c91_7 kl_RJ7_316 hl.1.1 (by decide) (by decide) g_S6 ?_
    obtain ⟨c7, h⟩ := gd_some h
    refine j_castA C dJ7_copyOf_59c91_10 cl_RJ7_317 c7 ?_
    exact j_aret C dJ7_copyOf_59c91_13 hr rfl h
noncomputable def f_X3_init (a0 : Option Nat) (a1 : Option Nat) (a2 : Option Nat) (a3 : Option Nat) (S : AS) : Option RS :=
  gd a0.isSome <|
  (pR S a0 4 0 a1).bind fun S2 =>
  (pR S2 a0 4 1 a2).bind fun S3 =>
  (pR S3 a0 4 2 a3).bind fun S4 =>
  rV S4
set_option maxHeartbeats 4000000 in
set_option maxRecDepth 100000 in
theorem m_X3_init {l : Launch} {b : Nat} {D : va_G} {dA : Nat → ClassId} (hst : l.stackTraces = false) {a0 : Option Nat} {a1 : Option Nat} {a2 : Option Nat} {a3 : Option Nat} {S : AS} {q : RS} (h : f_X3_init a0 a1 a2 a3 S = some q) : hp_M l b D dA yX3_init cX3_init 4 none 6 20 [rf b a0, rf b a1, rf b a2, rf b a3] S 0 q := by
  have hcat : ∀ v ∈ ([rf b a0, rf b a1, rf b a2, rf b a3] : List Value), v.category = 1 := (by intro v hv; simp only [List.mem_cons, List.not_mem_nil, or_false] at hv; rcases hv with rfl | rfl | rfl | rfl <;> first | exact cat_iv _ | exact cat_rf _ _)
  refine hp_ofJ (own := RX3) hst (by decide +kernel) rfl hcat (Nat.le_of_ble_eq_true rfl) ?_
  intro p e R s m args below meth c C hT hnm hr ls hl9
  have hl : hp_L ls 4 [(0, rf b a0), (1, rf b a1), (2, rf b a2), (3, rf b a3)] := hp_L.of hl9 hcat
  unfold f_X3_init at h
  refine j_aload_n C dX3_init_0 rfl (hl.at 0 rfl) ?_
  obtain ⟨c1, h⟩ := gd_some h
  refine j_objInit C dX3_init_1 c1 oi_RX3_1 oi_1 oi_2 hl.1.1 (by decide) (by decide) ?_
  refine j_aload_n C dX3_init_4 rfl (hl.at 0 rfl) ?_
  refine j_aload_n C dX3_init_5 rfl (hl.at 1 rfl) ?_
  obtain ⟨S2, g_S2, h⟩ := bd h
  refine j_pR C dX3_init_6 fl_RX3_7 (Or.inr ⟨rfl, hnm, rfl⟩) rfl g_S2 ?_
  refine j_aload_n C dX3_init_9 rfl (hl.at 0 rfl) ?_
  refine j_aload_n C dX3_init_10 rfl (hl.at 2 rfl) ?_
  obtain ⟨S3, g_S3, h⟩ := bd h
  refine j_pR C dX3_init_11 fl_RX3_13 (Or.inr ⟨rfl, hnm, rfl⟩) rfl g_S3 ?_
  refine j_aload_n C dX3_init_14 rfl (hl.at 0 rfl) ?_
  refine j_aload_n C dX3_init_15 rfl (hl.at 3 rfl) ?_
  obtain ⟨S4, g_S4, h⟩ := bd h
  refine j_pR C dX3_init_16 fl_RX3_17 (Or.inr ⟨rfl, hnm, rfl⟩) rfl g_S4 ?_
  exact j_vret C dX3_init_19 hr h
noncomputable def f_X0_init (a0 : Option Nat) (S : AS) : Option RS :=
  gd a0.isSome <|
  (nA S 8 128).bind fun S2 =>
  (pR S2 a0 1 0 (some (hn S))).bind fun S3 =>
  (nA S3 10 64).bind fun S4 =>
  (pR S4 a0 1 1 (some (hn S3))).bind fun S5 =>
  (pI S5 a0 1 2 0).bind fun S6 =>
  (pI S6 a0 1 3 0).bind fun S7 =>
  (pI S7 a0 1 4 1).bind fun S8 =>
  (gR S8 a0 1 0).bind fun o9 =>
  cV (f_J7_fill_53178 o9 (-1) S8) fun S10 =>
  rV S10
set_option maxHeartbeats 4000000 in
set_option maxRecDepth 100000 in
theorem m_X0_init {l : Launch} {b : Nat} {D : va_G} {dA : Nat → ClassId} (hst : l.stackTraces = false) {a0 : Option Nat} {S : AS} {q : RS} (h : f_X0_init a0 S = some q) : hp_M l b D dA yX0_init cX0_init 1 none 7 39 [rf b a0] S 0 q := by
  have hcat : ∀ v ∈ ([rf b a0] : List Value), v.category = 1 := (by intro v hv; simp only [List.mem_cons, List.not_mem_nil, or_false] at hv; rcases hv with rfl <;> first | exact cat_iv _ | exact cat_rf _ _)
  refine hp_ofJ (own := RX0) hst (by decide +kernel) rfl hcat (Nat.le_of_ble_eq_true rfl) ?_
  intro p e R s m args below meth c C hT hnm hr ls hl9
  have hl : hp_L ls 1 [(0, rf b a0)] := hp_L.of hl9 hcat
  unfold f_X0_init at h
  refine j_aload_n C dX0_init_0 rfl (hl.at 0 rfl) ?_
  obtain ⟨c1, h⟩ := gd_some h
  refine j_objInit C dX0_init_1 c1 oi_RX0_3 oi_1 oi_2 hl.1.1 (by decide) (by decide) ?_
  refine j_aload_n C dX0_init_4 rfl (hl.at 0 rfl) ?_
  refine j_sipush (x := 128) C dX0_init_5 (by decide) ?_
  obtain ⟨S2, g_S2, h⟩ := bd h
  refine j_newa C dX0_init_8 (Or.inl ⟨rfl, rfl⟩) ac_8 (by decide) g_S2 ?_
  obtain ⟨S3, g_S3, h⟩ := bd h
  refine j_pR C dX0_init_10 fl_RX0_9 (Or.inr ⟨rfl, hnm, rfl⟩) rfl g_S3 ?_
  refine j_aload_n C dX0_init_13 rfl (hl.at 0 rfl) ?_
  refine j_bipush (x := 64) C dX0_init_14 (by decide) ?_
  obtain ⟨S4, g_S4, h⟩ := bd h
  refine j_anew (ci := 3) C dX0_init_16 (by decide) cl_RX0_15 (by decide) g_S4 ?_
  obtain ⟨S5, g_S5, h⟩ := bd h
  refine j_pR C dX0_init_19 fl_RX0_17 (Or.inr ⟨rfl, hnm, rfl⟩) rfl g_S5 ?_
  refine j_aload_n C dX0_init_22 rfl (hl.at 0 rfl) ?_
  refine j_iconst C dX0_init_23 ?_
  obtain ⟨S6, g_S6, h⟩ := bd h
  refine j_pI C dX0_init_24 fl_RX0_21 (Or.inl rfl) rfl (by decide) g_S6 ?_
  refine j_aload_n C dX0_init_27 rfl (hl.at 0 rfl) ?_
  refine j_iconst C dX0_init_28 ?_
  obtain ⟨S7, g_S7, h⟩ := bd h
  refine j_pI C dX0_init_29 fl_RX0_25 (Or.inl rfl) rfl (by decide) g_S7 ?_
  refine j_aload_n C dX0_init_32 rfl (hl.at 0 rfl) ?_
  refine j_iconst C dX0_init_33 ?_
  obtain ⟨S8, g_S8, h⟩ := bd h
  refine j_pI C dX0_init_34 fl_RX0_28 (Or.inl rfl) rfl (by decide) g_S8 ?_
  refine j_aload_n C dX0_init_37 rfl (hl.at 0 rfl) ?_
  obtain ⟨o9, g_o9, h⟩ := bd h
  refine j_gR C dX0_init_38 fl_RX0_9 rfl g_o9 ?_
  refine j_iconst C dX0_init_41 ?_
  rcases cV_some h with ⟨S10, y11, hc, h⟩ | ⟨hc, hne⟩
  · refine j_callV C (run_S (As := [rf b o9, iv (-1)]) (rest := []) C (m_J7_fill_53178 hst (by decide) hc) cs_RX0_31 rfl hl.1.1 (by decide) (by decide) (by decide) dX0_init_42) ?_
    exact j_vret C dX0_init_45 hr h
  · exact j_thrown C hT (run_S (As := [rf b o9, iv (-1)]) (rest := []) C (m_J7_fill_53178 hst (by decide) hc) cs_RX0_31 rfl hl.1.1 (by decide) (by decide) (by decide) dX0_init_42) hne
noncomputable def f_X0_isLeaf (a0 : Option Nat) (S : AS) : Option RS :=
  (gI S a0 1 2).bind fun v1 =>
  if v1 = 0 then
    rZ 1 S
  else
    rZ 0 S
set_option maxHeartbeats 4000000 in
set_option maxRecDepth 100000 in
theorem m_X0_isLeaf {l : Launch} {b : Nat} {D : va_G} {dA : Nat → ClassId} (hst : l.stackTraces = false) {a0 : Option Nat} {S : AS} {q : RS} (h : f_X0_isLeaf a0 S = some q) : hp_M l b D dA yX0_isLeaf cX0_isLeaf 1 (some .boolean) 6 16 [rf b a0] S 1 q := by
  have hcat : ∀ v ∈ ([rf b a0] : List Value), v.category = 1 := (by intro v hv; simp only [List.mem_cons, List.not_mem_nil, or_false] at hv; rcases hv with rfl <;> first | exact cat_iv _ | exact cat_rf _ _)
  refine hp_ofJ (own := RX0) hst (by decide +kernel) rfl hcat (Nat.le_of_ble_eq_true rfl) ?_
  intro p e R s m args below meth c C hT hnm hr ls hl9
  have hl : hp_L ls 1 [(0, rf b a0)] := hp_L.of hl9 hcat
  unfold f_X0_isLeaf at h
  refine j_aload_n C dX0_isLeaf_0 rfl (hl.at 0 rfl) ?_
  obtain ⟨v1, g_v1, h⟩ := bd h
  refine j_gI C dX0_isLeaf_1 fl_RX0_21 (Or.inl rfl) g_v1 (fun hv1 => ?_)
  refine j_if_ne (tgt := 11) C dX0_isLeaf_4 (by decide) hv1 (fun b1 => ?_) (fun b1 => ?_)
  · rw [if_neg b1] at h
    refine j_iconst C dX0_isLeaf_11 ?_
    exact j_zret C dX0_isLeaf_12 hr h
  · rw [if_pos (Decidable.byContradiction b1)] at h
    refine j_iconst C dX0_isLeaf_7 ?_
    refine j_goto (tgt := 12) C dX0_isLeaf_8 (by decide) ?_
    exact j_zret C dX0_isLeaf_12 hr h
noncomputable def f_X0_netsOf (a0 : Option Nat) (x1 : Int) (S : AS) : Option RS :=
  if x1 = (-1) then
    (gR S a0 1 0).bind fun o4 =>
    rR o4 S
  else
    (gR S a0 1 1).bind fun o1 =>
    (aR S o1 10 x1).bind fun o2 =>
    (gR S o2 4 2).bind fun o3 =>
    rR o3 S
set_option maxHeartbeats 4000000 in
set_option maxRecDepth 100000 in
theorem m_X0_netsOf {l : Launch} {b : Nat} {D : va_G} {dA : Nat → ClassId} (hst : l.stackTraces = false) {a0 : Option Nat} {x1 : Int} {S : AS} {q : RS} (hx1 : inR x1) (h : f_X0_netsOf a0 x1 S = some q) : hp_M l b D dA yX0_netsOf cX0_netsOf 2 (some (.array .int)) 6 16 [rf b a0, iv x1] S 2 q := by
  have hcat : ∀ v ∈ ([rf b a0, iv x1] : List Value), v.category = 1 := (by intro v hv; simp only [List.mem_cons, List.not_mem_nil, or_false] at hv; rcases hv with rfl | rfl <;> first | exact cat_iv _ | exact cat_rf _ _)
  refine hp_ofJ (own := RX0) hst (by decide +kernel) rfl hcat (Nat.le_of_ble_eq_true rfl) ?_
  intro p e R s m args below meth c C hT hnm hr ls hl9
  have hl : hp_L ls 2 [(0, rf b a0), (1, iv x1)] := hp_L.of hl9 hcat
  unfold f_X0_netsOf at h
  refine j_iload_n C dX0_netsOf_0 rfl (hl.at 1 rfl) ?_
  refine j_iconst C dX0_netsOf_1 ?_
  refine j_icmp_ne (tgt := 12) C dX0_netsOf_2 (by decide) hx1 (by decide) (fun b1 => ?_) (fun b1 => ?_)
  · rw [if_neg b1] at h
    refine j_aload_n C dX0_netsOf_12 rfl (hl.at 0 rfl) ?_
    obtain ⟨o1, g_o1, h⟩ := bd h
    refine j_gR C dX0_netsOf_13 fl_RX0_17 rfl g_o1 ?_
    refine j_iload_n C dX0_netsOf_16 rfl (hl.at 1 rfl) ?_
    obtain ⟨o2, g_o2, h⟩ := bd h
    refine j_aald C dX0_netsOf_17 (by decide) hx1 g_o2 ?_
    obtain ⟨o3, g_o3, h⟩ := bd h
    refine j_gR C dX0_netsOf_18 fl_RX0_37 rfl g_o3 ?_
    exact j_aret C dX0_netsOf_21 hr rfl h
  · rw [if_pos (Decidable.byContradiction b1)] at h
    refine j_aload_n C dX0_netsOf_5 rfl (hl.at 0 rfl) ?_
    obtain ⟨o4, g_o4, h⟩ := bd h
    refine j_gR C dX0_netsOf_6 fl_RX0_9 rfl g_o4 ?_
    refine j_goto (tgt := 21) C dX0_netsOf_9 (by decide) ?_
    exact j_aret C dX0_netsOf_21 hr rfl h
noncomputable def f_X0_addNet (a0 : Option Nat) (S : AS) : Option RS :=
  (gI S a0 1 3).bind fun v1 =>
  (chk (v1 + 1)).bind fun z2 =>
  (pI S a0 1 3 z2).bind fun S3 =>
  (gI S3 a0 1 3).bind fun v4 =>
  (chk (v4 - 1)).bind fun z5 =>
  rI z5 S3
set_option maxHeartbeats 4000000 in
set_option maxRecDepth 100000 in
theorem m_X0_addNet {l : Launch} {b : Nat} {D : va_G} {dA : Nat → ClassId} (hst : l.stackTraces = false) {a0 : Option Nat} {S : AS} {q : RS} (h : f_X0_addNet a0 S = some q) : hp_M l b D dA yX0_addNet cX0_addNet 1 (some .int) 6 16 [rf b a0] S 1 q := by
  have hcat : ∀ v ∈ ([rf b a0] : List Value), v.category = 1 := (by intro v hv; simp only [List.mem_cons, List.not_mem_nil, or_false] at hv; rcases hv with rfl <;> first | exact cat_iv _ | exact cat_rf _ _)
  refine hp_ofJ (own := RX0) hst (by decide +kernel) rfl hcat (Nat.le_of_ble_eq_true rfl) ?_
  intro p e R s m args below meth c C hT hnm hr ls hl9
  have hl : hp_L ls 1 [(0, rf b a0)] := hp_L.of hl9 hcat
  unfold f_X0_addNet at h
  refine j_aload_n C dX0_addNet_0 rfl (hl.at 0 rfl) ?_
  refine j_dup C dX0_addNet_1 (cat_rf _ _) ?_
  obtain ⟨v1, g_v1, h⟩ := bd h
  refine j_gI C dX0_addNet_2 fl_RX0_25 (Or.inl rfl) g_v1 (fun hv1 => ?_)
  refine j_iconst C dX0_addNet_5 ?_
  obtain ⟨z2, g_z2, h⟩ := bd h
  refine j_iadd C dX0_addNet_6 g_z2 (fun hz2 => ?_)
  obtain ⟨S3, g_S3, h⟩ := bd h
  refine j_pI C dX0_addNet_7 fl_RX0_25 (Or.inl rfl) rfl hz2 g_S3 ?_
  refine j_aload_n C dX0_addNet_10 rfl (hl.at 0 rfl) ?_
  obtain ⟨v4, g_v4, h⟩ := bd h
  refine j_gI C dX0_addNet_11 fl_RX0_25 (Or.inl rfl) g_v4 (fun hv4 => ?_)
  refine j_iconst C dX0_addNet_14 ?_
  obtain ⟨z5, g_z5, h⟩ := bd h
  refine j_isub C dX0_addNet_15 g_z5 (fun hz5 => ?_)
  exact j_iret C dX0_addNet_16 hr hz5 h
noncomputable def f_X0_addPlacement (a0 : Option Nat) (a1 : Option Nat) (S : AS) : Option RS :=
  (gR S a0 1 1).bind fun o1 =>
  (gI S a0 1 2).bind fun v2 =>
  (sR S o1 10 v2 a1).bind fun S3 =>
  (gI S3 a0 1 2).bind fun v4 =>
  (chk (v4 + 1)).bind fun z5 =>
  (pI S3 a0 1 2 z5).bind fun S6 =>
  (gI S6 a0 1 2).bind fun v7 =>
  (chk (v7 - 1)).bind fun z8 =>
  rI z8 S6
set_option maxHeartbeats 4000000 in
set_option maxRecDepth 100000 in
theorem m_X0_addPlacement {l : Launch} {b : Nat} {D : va_G} {dA : Nat → ClassId} (hst : l.stackTraces = false) {a0 : Option Nat} {a1 : Option Nat} {S : AS} {q : RS} (h : f_X0_addPlacement a0 a1 S = some q) : hp_M l b D dA yX0_addPlacement cX0_addPlacement 2 (some .int) 6 16 [rf b a0, rf b a1] S 1 q := by
  have hcat : ∀ v ∈ ([rf b a0, rf b a1] : List Value), v.category = 1 := (by intro v hv; simp only [List.mem_cons, List.not_mem_nil, or_false] at hv; rcases hv with rfl | rfl <;> first | exact cat_iv _ | exact cat_rf _ _)
  refine hp_ofJ (own := RX0) hst (by decide +kernel) rfl hcat (Nat.le_of_ble_eq_true rfl) ?_
  intro p e R s m args below meth c C hT hnm hr ls hl9
  have hl : hp_L ls 2 [(0, rf b a0), (1, rf b a1)] := hp_L.of hl9 hcat
  unfold f_X0_addPlacement at h
  refine j_aload_n C dX0_addPlacement_0 rfl (hl.at 0 rfl) ?_
  obtain ⟨o1, g_o1, h⟩ := bd h
  refine j_gR C dX0_addPlacement_1 fl_RX0_17 rfl g_o1 ?_
  refine j_aload_n C dX0_addPlacement_4 rfl (hl.at 0 rfl) ?_
  obtain ⟨v2, g_v2, h⟩ := bd h
  refine j_gI C dX0_addPlacement_5 fl_RX0_21 (Or.inl rfl) g_v2 (fun hv2 => ?_)
  refine j_aload_n C dX0_addPlacement_8 rfl (hl.at 1 rfl) ?_
  obtain ⟨S3, g_S3, h⟩ := bd h
  refine j_aast C dX0_addPlacement_9 (by decide) hv2 g_S3 ?_
  refine j_aload_n C dX0_addPlacement_10 rfl (hl.at 0 rfl) ?_
  refine j_dup C dX0_addPlacement_11 (cat_rf _ _) ?_
  obtain ⟨v4, g_v4, h⟩ := bd h
  refine j_gI C dX0_addPlacement_12 fl_RX0_21 (Or.inl rfl) g_v4 (fun hv4 => ?_)
  refine j_iconst C dX0_addPlacement_15 ?_
  obtain ⟨z5, g_z5, h⟩ := bd h
  refine j_iadd C dX0_addPlacement_16 g_z5 (fun hz5 => ?_)
  obtain ⟨S6, g_S6, h⟩ := bd h
  refine j_pI C dX0_addPlacement_17 fl_RX0_21 (Or.inl rfl) rfl hz5 g_S6 ?_
  refine j_aload_n C dX0_addPlacement_20 rfl (hl.at 0 rfl) ?_
  obtain ⟨v7, g_v7, h⟩ := bd h
  refine j_gI C dX0_addPlacement_21 fl_RX0_21 (Or.inl rfl) g_v7 (fun hv7 => ?_)
  refine j_iconst C dX0_addPlacement_24 ?_
  obtain ⟨z8, g_z8, h⟩ := bd h
  refine j_isub C dX0_addPlacement_25 g_z8 (fun hz8 => ?_)
  exact j_iret C dX0_addPlacement_26 hr hz8 h
noncomputable def f_X0_twin_26 (n : Nat) (a0 : Option Nat) (a1 : Option Nat) (x2 : Int) (S : AS) : Option RS := match n with
  | 0 => none
  | n + 1 =>
    (gI S a0 1 2).bind fun v1 =>
    if v1 ≤ x2 then
      (gI S a0 1 3).bind fun v2 =>
      (pI S a1 1 3 v2).bind fun S3 =>
      rR a1 S3
    else
      (gR S a0 1 1).bind fun o4 =>
      (aR S o4 10 x2).bind fun o5 =>
      (nO S 4).bind fun S6 =>
      (gR S6 o5 4 0).bind fun o7 =>
      (gR S6 o5 4 1).bind fun o8 =>
      (gR S6 o5 4 2).bind fun o9 =>
      (kln S6 o9).bind fun S10 =>
      gd (isK S10 (some (hn S6)) 8) <|
      cN (f_X3_init (some (hn S)) o7 o8 (some (hn S6)) S10) fun S12 =>
      gd (isK S12 a1 1) <|
      cI (f_X0_addPlacement a1 (some (hn S)) S12) fun v15 S14 =>
      (chk (x2 + 1)).bind fun z17 =>
      f_X0_twin_26 n a0 a1 z17 S14
set_option maxHeartbeats 4000000 in
set_option maxRecDepth 100000 in
theorem w_X0_twin_26 {p : Program} {l : Launch} {e : Env} {R : Room} {s : State} {m : MethodId} {args : Array Value} {below : List Frame} {meth : Method} {c : Code} {b : Nat} {D : va_G} {dA : Nat → ClassId} {S0 : AS} {q : RS} (C : hp_C p l e R s m args below meth c b D dA S0 RX0 cX0_twin 4 8 80) (hT : ∀ x ∈ c.exceptionTable.toList, False) (hnm : meth.name = "twin") (hr : meth.sig.returnType = (some (.object "DesignTrees$Inside"))) : ∀ (n : Nat), ∀ (a0 : Option Nat) (a1 : Option Nat) (x2 : Int) (S : AS), inR x2 → f_X0_twin_26 n a0 a1 x2 S = some q → ∀ ls : Array Slot, hp_L ls 4 [(0, rf b a0), (1, rf b a1), (2, iv x2)] → hp_J p l e R s m args below meth c b D dA S0 (hp_Q below b D dA S0 2 q args s) S 26 ls [] := by
  have hst : l.stackTraces = false := C.2.2.2.2.2.2.2.2.2.2.1
  intro n
  induction n with
  | zero =>
    intro a0 a1 x2 S hx2 h
    cases h
  | succ n ih =>
    intro a0 a1 x2 S hx2 h ls hl
    unfold f_X0_twin_26 at h
    refine j_iload_n C dX0_twin_26 rfl (hl.at 2 rfl) ?_
    refine j_aload_n C dX0_twin_27 rfl (hl.at 0 rfl) ?_
    obtain ⟨v1, g_v1, h⟩ := bd h
    refine j_gI C dX0_twin_28 fl_RX0_21 (Or.inl rfl) g_v1 (fun hv1 => ?_)
    refine j_icmp_ge (tgt := 77) C dX0_twin_31 (by decide) hx2 hv1 (fun b1 => ?_) (fun b1 => ?_)
    · rw [if_pos b1] at h
      refine j_aload_n C dX0_twin_77 rfl (hl.at 1 rfl) ?_
      refine j_aload_n C dX0_twin_78 rfl (hl.at 0 rfl) ?_
      obtain ⟨v2, g_v2, h⟩ := bd h
      refine j_gI C dX0_twin_79 fl_RX0_25 (Or.inl rfl) g_v2 (fun hv2 => ?_)
      obtain ⟨S3, g_S3, h⟩ := bd h
      refine j_pI C dX0_twin_82 fl_RX0_25 (Or.inl rfl) rfl hv2 g_S3 ?_
      refine j_aload_n C dX0_twin_85 rfl (hl.at 1 rfl) ?_
      exact j_aret C dX0_twin_86 hr rfl h
    · rw [if_neg b1] at h
      refine j_aload_n C dX0_twin_34 rfl (hl.at 0 rfl) ?_
      obtain ⟨o4, g_o4, h⟩ := bd h
      refine j_gR C dX0_twin_35 fl_RX0_17 rfl g_o4 ?_
      refine j_iload_n C dX0_twin_38 rfl (hl.at 2 rfl) ?_
      obtain ⟨o5, g_o5, h⟩ := bd h
      refine j_aald C dX0_twin_39 (by decide) hx2 g_o5 ?_
      refine k_astore_n (lv' := [(3, rf b o5), (0, rf b a0), (1, rf b a1), (2, iv x2)]) C dX0_twin_40 rfl hl (by decide) rfl (fun ls hl => ?_)
      refine j_aload_n C dX0_twin_41 rfl (hl.at 2 rfl) ?_
      obtain ⟨S6, g_S6, h⟩ := bd h
      refine j_new C dX0_twin_42 nw_RX0_15 g_S6 ?_
      refine j_dup C dX0_twin_45 (cat_rf _ _) ?_
      refine j_aload_n C dX0_twin_46 rfl (hl.at 0 rfl) ?_
      obtain ⟨o7, g_o7, h⟩ := bd h
      refine j_gR C dX0_twin_47 fl_RX0_47 rfl g_o7 ?_
      refine j_aload_n C dX0_twin_50 rfl (hl.at 0 rfl) ?_
      obtain ⟨o8, g_o8, h⟩ := bd h
      refine j_gR C dX0_twin_51 fl_RX0_51 rfl g_o8 ?_
      refine j_aload_n C dX0_twin_54 rfl (hl.at 0 rfl) ?_
      obtain ⟨o9, g_o9, h⟩ := bd h
      refine j_gR C dX0_twin_55 fl_RX0_37 rfl g_o9 ?_
      obtain ⟨S10, g_S10, h⟩ := bd h
      refine j_clone C dX0_twin_58 kl_RX0_54 hl.1.1 (by decide) (by first | decide | (simp [cat_iv, cat_rf]; omega) | simp [cat_iv, cat_rf]) g_S10 ?_
      obtain ⟨c11, h⟩ := gd_some h
      refine j_castA C dX0_twin_61 cl_RX0_55 c11 ?_
      obtain ⟨S12, y13, hc, h⟩ := cN_some h
      refine j_callV C (run_I (As := [rf b o7, rf b o8, rf b (some (hn S6))]) (rest := [rf b (some (hn S)), rf b a1]) C (m_X3_init hst hc) rfl ci_RX0_59 rfl hl.1.1 (by simp [cat_iv, cat_rf]) (by decide) (by decide) dX0_twin_64) ?_
      obtain ⟨c16, h⟩ := gd_some h
      rcases cI_some h with ⟨S14, v15, wv15, hc, h⟩ | ⟨hc, hne⟩
      · refine j_callI C (run_W (As := [rf b (some (hn S))]) (rest := []) C (m_X0_addPlacement hst hc) cv_RX0_62 (by decide) rfl c16 rfl hl (by decide) (by decide) (by decide) dX0_twin_67) (fun hv15 => ?_)
        refine j_pop C dX0_twin_70 (cat_iv _) ?_
        obtain ⟨z17, g_z17, h⟩ := bd h
        refine k_iinc (k9 := 3) (lv' := [(2, iv z17), (3, rf b o5), (0, rf b a0), (1, rf b a1)]) C dX0_twin_71 hl rfl g_z17 (by decide) rfl (fun hz17 ls hl => ?_)
        refine j_goto (tgt := 26) C dX0_twin_74 (by decide) ?_
        exact ih _ _ _ _ hz17 h ls (hl.sub [2, 3, 0] rfl)
      · exact j_thrown C hT (run_W (As := [rf b (some (hn S))]) (rest := []) C (m_X0_addPlacement hst hc) cv_RX0_62 (by decide) rfl c16 rfl hl (by decide) (by decide) (by decide) dX0_twin_67) hne
noncomputable def f_X0_twin (a0 : Option Nat) (S : AS) : Option RS :=
  (nO S 1).bind fun S1 =>
  cN (f_X0_init (some (hn S)) S1) fun S2 =>
  (gR S2 a0 1 0).bind fun o4 =>
  (gR S2 (some (hn S)) 1 0).bind fun o5 =>
  (cpy S2 o4 0 o5 0 128 8).bind fun S6 =>
  f_X0_twin_26 FU a0 (some (hn S)) 0 S6
set_option maxHeartbeats 4000000 in
set_option maxRecDepth 100000 in
theorem m_X0_twin {l : Launch} {b : Nat} {D : va_G} {dA : Nat → ClassId} (hst : l.stackTraces = false) {a0 : Option Nat} {S : AS} {q : RS} (h : f_X0_twin a0 S = some q) : hp_M l b D dA yX0_twin cX0_twin 4 (some (.object "DesignTrees$Inside")) 8 80 [rf b a0] S 2 q := by
  have hcat : ∀ v ∈ ([rf b a0] : List Value), v.category = 1 := (by intro v hv; simp only [List.mem_cons, List.not_mem_nil, or_false] at hv; rcases hv with rfl <;> first | exact cat_iv _ | exact cat_rf _ _)
  refine hp_ofJ (own := RX0) hst (by decide +kernel) rfl hcat (Nat.le_of_ble_eq_true rfl) ?_
  intro p e R s m args below meth c C hT hnm hr ls hl9
  have hl : hp_L ls 4 [(0, rf b a0)] := hp_L.of hl9 hcat
  unfold f_X0_twin at h
  obtain ⟨S1, g_S1, h⟩ := bd h
  refine j_new C dX0_twin_0 nw_RX0_10 g_S1 ?_
  refine j_dup C dX0_twin_3 (cat_rf _ _) ?_
  obtain ⟨S2, y3, hc, h⟩ := cN_some h
  refine j_callV C (run_I (As := []) (rest := [rf b (some (hn S))]) C (m_X0_init hst hc) rfl ci_RX0_40 rfl hl.1.1 (by simp [cat_iv, cat_rf]) (by decide) (by decide) dX0_twin_4) ?_
  refine k_astore_n (lv' := [(1, rf b (some (hn S))), (0, rf b a0)]) C dX0_twin_7 rfl hl (by decide) rfl (fun ls hl => ?_)
  refine j_aload_n C dX0_twin_8 rfl (hl.at 1 rfl) ?_
  obtain ⟨o4, g_o4, h⟩ := bd h
  refine j_gR C dX0_twin_9 fl_RX0_9 rfl g_o4 ?_
  refine j_iconst C dX0_twin_12 ?_
  refine j_aload_n C dX0_twin_13 rfl (hl.at 0 rfl) ?_
  obtain ⟨o5, g_o5, h⟩ := bd h
  refine j_gR C dX0_twin_14 fl_RX0_9 rfl g_o5 ?_
  refine j_iconst C dX0_twin_17 ?_
  refine j_sipush (x := 128) C dX0_twin_18 (by decide) ?_
  obtain ⟨S6, g_S6, h⟩ := bd h
  refine j_copy C dX0_twin_21 (by decide) (by decide) (by decide) (by decide) cp_RX0_41 cp_n cp_s cp_i hl.1.1 (by decide) (by decide) g_S6 ?_
  refine j_iconst C dX0_twin_24 ?_
  refine k_istore_n (lv' := [(2, iv 0), (1, rf b (some (hn S))), (0, rf b a0)]) C dX0_twin_25 rfl hl (by decide) rfl (fun ls hl => ?_)
  exact w_X0_twin_26 C hT hnm hr FU _ _ _ _ (by decide) h ls (hl.sub [2, 1, 0] rfl)
noncomputable def f_X5_isSameRow_11 (n : Nat) (a0 : Option Nat) (a1 : Option Nat) (x2 : Int) (S : AS) : Option RS := match n with
  | 0 => none
  | n + 1 =>
    (ln S a0 8).bind fun v1 =>
    if v1 ≤ x2 then
      rZ 1 S
    else
      (aI S a0 8 x2).bind fun v2 =>
      (aI S a1 8 x2).bind fun v3 =>
      if v2 = v3 then
        (chk (x2 + 1)).bind fun z4 =>
        f_X5_isSameRow_11 n a0 a1 z4 S
      else
        rZ 0 S
set_option maxHeartbeats 4000000 in
set_option maxRecDepth 100000 in
theorem w_X5_isSameRow_11 {p : Program} {l : Launch} {e : Env} {R : Room} {s : State} {m : MethodId} {args : Array Value} {below : List Frame} {meth : Method} {c : Code} {b : Nat} {D : va_G} {dA : Nat → ClassId} {S0 : AS} {q : RS} (C : hp_C p l e R s m args below meth c b D dA S0 RX5 cX5_isSameRow 3 6 16) (hT : ∀ x ∈ c.exceptionTable.toList, False) (hnm : meth.name = "isSameRow") (hr : meth.sig.returnType = (some .boolean)) : ∀ (n : Nat), ∀ (a0 : Option Nat) (a1 : Option Nat) (x2 : Int) (S : AS), inR x2 → f_X5_isSameRow_11 n a0 a1 x2 S = some q → ∀ ls : Array Slot, hp_L ls 3 [(0, rf b a0), (1, rf b a1), (2, iv x2)] → hp_J p l e R s m args below meth c b D dA S0 (hp_Q below b D dA S0 1 q args s) S 11 ls [] := by
  have hst : l.stackTraces = false := C.2.2.2.2.2.2.2.2.2.2.1
  intro n
  induction n with
  | zero =>
    intro a0 a1 x2 S hx2 h
    cases h
  | succ n ih =>
    intro a0 a1 x2 S hx2 h ls hl
    unfold f_X5_isSameRow_11 at h
    refine j_iload_n C dX5_isSameRow_11 rfl (hl.at 2 rfl) ?_
    refine j_aload_n C dX5_isSameRow_12 rfl (hl.at 0 rfl) ?_
    obtain ⟨v1, g_v1, h⟩ := bd h
    refine j_alen C dX5_isSameRow_13 (by decide) g_v1 (fun hv1 => ?_)
    refine j_icmp_ge (tgt := 34) C dX5_isSameRow_14 (by decide) hx2 hv1 (fun b1 => ?_) (fun b1 => ?_)
    · rw [if_pos b1] at h
      refine j_iconst C dX5_isSameRow_34 ?_
      exact j_zret C dX5_isSameRow_35 hr h
    · rw [if_neg b1] at h
      refine j_aload_n C dX5_isSameRow_17 rfl (hl.at 0 rfl) ?_
      refine j_iload_n C dX5_isSameRow_18 rfl (hl.at 2 rfl) ?_
      obtain ⟨v2, g_v2, h⟩ := bd h
      refine j_iald C dX5_isSameRow_19 hx2 g_v2 (fun hv2 => ?_)
      refine j_aload_n C dX5_isSameRow_20 rfl (hl.at 1 rfl) ?_
      refine j_iload_n C dX5_isSameRow_21 rfl (hl.at 2 rfl) ?_
      obtain ⟨v3, g_v3, h⟩ := bd h
      refine j_iald C dX5_isSameRow_22 hx2 g_v3 (fun hv3 => ?_)
      refine j_icmp_eq (tgt := 28) C dX5_isSameRow_23 (by decide) hv2 hv3 (fun b1 => ?_) (fun b1 => ?_)
      · rw [if_pos b1] at h
        obtain ⟨z4, g_z4, h⟩ := bd h
        refine k_iinc (k9 := 2) (lv' := [(2, iv z4), (0, rf b a0), (1, rf b a1)]) C dX5_isSameRow_28 hl rfl g_z4 (by decide) rfl (fun hz4 ls hl => ?_)
        refine j_goto (tgt := 11) C dX5_isSameRow_31 (by decide) ?_
        exact ih _ _ _ _ hz4 h ls (hl.sub [1, 2, 0] rfl)
      · rw [if_neg b1] at h
        refine j_iconst C dX5_isSameRow_26 ?_
        exact j_zret C dX5_isSameRow_27 hr h
noncomputable def f_X5_isSameRow (a0 : Option Nat) (a1 : Option Nat) (S : AS) : Option RS :=
  (ln S a0 8).bind fun v1 =>
  (ln S a1 8).bind fun v2 =>
  if v1 = v2 then
    f_X5_isSameRow_11 FU a0 a1 0 S
  else
    rZ 0 S
set_option maxHeartbeats 4000000 in
set_option maxRecDepth 100000 in
theorem m_X5_isSameRow {l : Launch} {b : Nat} {D : va_G} {dA : Nat → ClassId} (hst : l.stackTraces = false) {a0 : Option Nat} {a1 : Option Nat} {S : AS} {q : RS} (h : f_X5_isSameRow a0 a1 S = some q) : hp_M l b D dA yX5_isSameRow cX5_isSameRow 3 (some .boolean) 6 16 [rf b a0, rf b a1] S 1 q := by
  have hcat : ∀ v ∈ ([rf b a0, rf b a1] : List Value), v.category = 1 := (by intro v hv; simp only [List.mem_cons, List.not_mem_nil, or_false] at hv; rcases hv with rfl | rfl <;> first | exact cat_iv _ | exact cat_rf _ _)
  refine hp_ofJ (own := RX5) hst (by decide +kernel) rfl hcat (Nat.le_of_ble_eq_true rfl) ?_
  intro p e R s m args below meth c C hT hnm hr ls hl9
  have hl : hp_L ls 3 [(0, rf b a0), (1, rf b a1)] := hp_L.of hl9 hcat
  unfold f_X5_isSameRow at h
  refine j_aload_n C dX5_isSameRow_0 rfl (hl.at 0 rfl) ?_
  obtain ⟨v1, g_v1, h⟩ := bd h
  refine j_alen C dX5_isSameRow_1 (by decide) g_v1 (fun hv1 => ?_)
  refine j_aload_n C dX5_isSameRow_2 rfl (hl.at 1 rfl) ?_
  obtain ⟨v2, g_v2, h⟩ := bd h
  refine j_alen C dX5_isSameRow_3 (by decide) g_v2 (fun hv2 => ?_)
  refine j_icmp_eq (tgt := 9) C dX5_isSameRow_4 (by decide) hv1 hv2 (fun b1 => ?_) (fun b1 => ?_)
  · rw [if_pos b1] at h
    refine j_iconst C dX5_isSameRow_9 ?_
    refine k_istore_n (lv' := [(2, iv 0), (0, rf b a0), (1, rf b a1)]) C dX5_isSameRow_10 rfl hl (by decide) rfl (fun ls hl => ?_)
    exact w_X5_isSameRow_11 C hT hnm hr FU _ _ _ _ (by decide) h ls (hl.sub [1, 2, 0] rfl)
  · rw [if_neg b1] at h
    refine j_iconst C dX5_isSameRow_7 ?_
    exact j_zret C dX5_isSameRow_8 hr h
noncomputable def f_X4_init (a0 : Option Nat) (x1 : Int) (a2 : Option Nat) (S : AS) : Option RS :=
  gd a0.isSome <|
  (nA S 8 16).bind fun S2 =>
  (pR S2 a0 5 1 (some (hn S))).bind fun S3 =>
  (nA S3 9 128).bind fun S4 =>
  (pR S4 a0 5 2 (some (hn S3))).bind fun S5 =>
  (pI S5 a0 5 3 0).bind fun S6 =>
  (pI S6 a0 5 4 0).bind fun S7 =>
  (pZ S7 a0 5 5 0).bind fun S8 =>
  (pI S8 a0 5 0 x1).bind fun S9 =>
  (pR S9 a0 5 6 a2).bind fun S10 =>
  rV S10
set_option maxHeartbeats 4000000 in
set_option maxRecDepth 100000 in
theorem m_X4_init {l : Launch} {b : Nat} {D : va_G} {dA : Nat → ClassId} (hst : l.stackTraces = false) {a0 : Option Nat} {x1 : Int} {a2 : Option Nat} {S : AS} {q : RS} (hx1 : inR x1) (h : f_X4_init a0 x1 a2 S = some q) : hp_M l b D dA yX4_init cX4_init 3 none 6 20 [rf b a0, iv x1, rf b a2] S 0 q := by
  have hcat : ∀ v ∈ ([rf b a0, iv x1, rf b a2] : List Value), v.category = 1 := (by intro v hv; simp only [List.mem_cons, List.not_mem_nil, or_false] at hv; rcases hv with rfl | rfl | rfl <;> first | exact cat_iv _ | exact cat_rf _ _)
  refine hp_ofJ (own := RX4) hst (by decide +kernel) rfl hcat (Nat.le_of_ble_eq_true rfl) ?_
  intro p e R s m args below meth c C hT hnm hr ls hl9
  have hl : hp_L ls 3 [(0, rf b a0), (1, iv x1), (2, rf b a2)] := hp_L.of hl9 hcat
  unfold f_X4_init at h
  refine j_aload_n C dX4_init_0 rfl (hl.at 0 rfl) ?_
  obtain ⟨c1, h⟩ := gd_some h
  refine j_objInit C dX4_init_1 c1 oi_RX4_3 oi_1 oi_2 hl.1.1 (by decide) (by decide) ?_
  refine j_aload_n C dX4_init_4 rfl (hl.at 0 rfl) ?_
  refine j_bipush (x := 16) C dX4_init_5 (by decide) ?_
  obtain ⟨S2, g_S2, h⟩ := bd h
  refine j_newa C dX4_init_7 (Or.inl ⟨rfl, rfl⟩) ac_8 (by decide) g_S2 ?_
  obtain ⟨S3, g_S3, h⟩ := bd h
  refine j_pR C dX4_init_9 fl_RX4_9 (Or.inr ⟨rfl, hnm, rfl⟩) rfl g_S3 ?_
  refine j_aload_n C dX4_init_12 rfl (hl.at 0 rfl) ?_
  refine j_sipush (x := 128) C dX4_init_13 (by decide) ?_
  obtain ⟨S4, g_S4, h⟩ := bd h
  refine j_newa C dX4_init_16 (Or.inr (Or.inl ⟨rfl, rfl⟩)) ac_9 (by decide) g_S4 ?_
  obtain ⟨S5, g_S5, h⟩ := bd h
  refine j_pR C dX4_init_18 fl_RX4_15 (Or.inr ⟨rfl, hnm, rfl⟩) rfl g_S5 ?_
  refine j_aload_n C dX4_init_21 rfl (hl.at 0 rfl) ?_
  refine j_iconst C dX4_init_22 ?_
  obtain ⟨S6, g_S6, h⟩ := bd h
  refine j_pI C dX4_init_23 fl_RX4_19 (Or.inl rfl) rfl (by decide) g_S6 ?_
  refine j_aload_n C dX4_init_26 rfl (hl.at 0 rfl) ?_
  refine j_iconst C dX4_init_27 ?_
  obtain ⟨S7, g_S7, h⟩ := bd h
  refine j_pI C dX4_init_28 fl_RX4_23 (Or.inl rfl) rfl (by decide) g_S7 ?_
  refine j_aload_n C dX4_init_31 rfl (hl.at 0 rfl) ?_
  refine j_iconst C dX4_init_32 ?_
  obtain ⟨S8, g_S8, h⟩ := bd h
  refine j_pZ C dX4_init_33 fl_RX4_26 (Or.inl rfl) rfl g_S8 ?_
  refine j_aload_n C dX4_init_36 rfl (hl.at 0 rfl) ?_
  refine j_iload_n C dX4_init_37 rfl (hl.at 1 rfl) ?_
  obtain ⟨S9, g_S9, h⟩ := bd h
  refine j_pI C dX4_init_38 fl_RX4_30 (Or.inr ⟨rfl, hnm, rfl⟩) rfl hx1 g_S9 ?_
  refine j_aload_n C dX4_init_41 rfl (hl.at 0 rfl) ?_
  refine j_aload_n C dX4_init_42 rfl (hl.at 2 rfl) ?_
  obtain ⟨S10, g_S10, h⟩ := bd h
  refine j_pR C dX4_init_43 fl_RX4_33 (Or.inl rfl) rfl g_S10 ?_
  exact j_vret C dX4_init_46 hr h
noncomputable def f_X4_addPort_2 (n : Nat) (a0 : Option Nat) (x1 : Int) (x2 : Int) (x3 : Int) (S : AS) : Option RS := match n with
  | 0 => none
  | n + 1 =>
    if x1 ≤ x3 then
      (gR S a0 5 1).bind fun o1 =>
      (gI S a0 5 3).bind fun v2 =>
      (sI S o1 8 v2 x1).bind fun S3 =>
      (gI S3 a0 5 4).bind fun v4 =>
      (chk (v4 + x1)).bind fun z5 =>
      (pI S3 a0 5 4 z5).bind fun S6 =>
      (gI S6 a0 5 3).bind fun v7 =>
      (chk (v7 + 1)).bind fun z8 =>
      (pI S6 a0 5 3 z8).bind fun S9 =>
      (gI S9 a0 5 3).bind fun v10 =>
      (chk (v10 - 1)).bind fun z11 =>
      rI z11 S9
    else
      (gR S a0 5 2).bind fun o12 =>
      (gI S a0 5 4).bind fun v13 =>
      (chk (v13 + x3)).bind fun z14 =>
      (sZ S o12 z14 x2).bind fun S15 =>
      (chk (x3 + 1)).bind fun z16 =>
      f_X4_addPort_2 n a0 x1 x2 z16 S15
set_option maxHeartbeats 4000000 in
set_option maxRecDepth 100000 in
theorem w_X4_addPort_2 {p : Program} {l : Launch} {e : Env} {R : Room} {s : State} {m : MethodId} {args : Array Value} {below : List Frame} {meth : Method} {c : Code} {b : Nat} {D : va_G} {dA : Nat → ClassId} {S0 : AS} {q : RS} (C : hp_C p l e R s m args below meth c b D dA S0 RX4 cX4_addPort 4 6 16) (hT : ∀ x ∈ c.exceptionTable.toList, False) (hnm : meth.name = "addPort") (hr : meth.sig.returnType = (some .int)) : ∀ (n : Nat), ∀ (a0 : Option Nat) (x1 : Int) (x2 : Int) (x3 : Int) (S : AS), inR x1 → inR x2 → inR x3 → f_X4_addPort_2 n a0 x1 x2 x3 S = some q → ∀ ls : Array Slot, hp_L ls 4 [(0, rf b a0), (1, iv x1), (2, iv x2), (3, iv x3)] → hp_J p l e R s m args below meth c b D dA S0 (hp_Q below b D dA S0 1 q args s) S 2 ls [] := by
  have hst : l.stackTraces = false := C.2.2.2.2.2.2.2.2.2.2.1
  intro n
  induction n with
  | zero =>
    intro a0 x1 x2 x3 S hx1 hx2 hx3 h
    cases h
  | succ n ih =>
    intro a0 x1 x2 x3 S hx1 hx2 hx3 h ls hl
    unfold f_X4_addPort_2 at h
    refine j_iload_n C dX4_addPort_2 rfl (hl.at 3 rfl) ?_
    refine j_iload_n C dX4_addPort_3 rfl (hl.at 1 rfl) ?_
    refine j_icmp_ge (tgt := 25) C dX4_addPort_4 (by decide) hx3 hx1 (fun b1 => ?_) (fun b1 => ?_)
    · rw [if_pos b1] at h
      refine j_aload_n C dX4_addPort_25 rfl (hl.at 0 rfl) ?_
      obtain ⟨o1, g_o1, h⟩ := bd h
      refine j_gR C dX4_addPort_26 fl_RX4_9 rfl g_o1 ?_
      refine j_aload_n C dX4_addPort_29 rfl (hl.at 0 rfl) ?_
      obtain ⟨v2, g_v2, h⟩ := bd h
      refine j_gI C dX4_addPort_30 fl_RX4_19 (Or.inl rfl) g_v2 (fun hv2 => ?_)
      refine j_iload_n C dX4_addPort_33 rfl (hl.at 1 rfl) ?_
      obtain ⟨S3, g_S3, h⟩ := bd h
      refine j_iast C dX4_addPort_34 hv2 hx1 g_S3 ?_
      refine j_aload_n C dX4_addPort_35 rfl (hl.at 0 rfl) ?_
      refine j_dup C dX4_addPort_36 (cat_rf _ _) ?_
      obtain ⟨v4, g_v4, h⟩ := bd h
      refine j_gI C dX4_addPort_37 fl_RX4_23 (Or.inl rfl) g_v4 (fun hv4 => ?_)
      refine j_iload_n C dX4_addPort_40 rfl (hl.at 1 rfl) ?_
      obtain ⟨z5, g_z5, h⟩ := bd h
      refine j_iadd C dX4_addPort_41 g_z5 (fun hz5 => ?_)
      obtain ⟨S6, g_S6, h⟩ := bd h
      refine j_pI C dX4_addPort_42 fl_RX4_23 (Or.inl rfl) rfl hz5 g_S6 ?_
      refine j_aload_n C dX4_addPort_45 rfl (hl.at 0 rfl) ?_
      refine j_dup C dX4_addPort_46 (cat_rf _ _) ?_
      obtain ⟨v7, g_v7, h⟩ := bd h
      refine j_gI C dX4_addPort_47 fl_RX4_19 (Or.inl rfl) g_v7 (fun hv7 => ?_)
      refine j_iconst C dX4_addPort_50 ?_
      obtain ⟨z8, g_z8, h⟩ := bd h
      refine j_iadd C dX4_addPort_51 g_z8 (fun hz8 => ?_)
      obtain ⟨S9, g_S9, h⟩ := bd h
      refine j_pI C dX4_addPort_52 fl_RX4_19 (Or.inl rfl) rfl hz8 g_S9 ?_
      refine j_aload_n C dX4_addPort_55 rfl (hl.at 0 rfl) ?_
      obtain ⟨v10, g_v10, h⟩ := bd h
      refine j_gI C dX4_addPort_56 fl_RX4_19 (Or.inl rfl) g_v10 (fun hv10 => ?_)
      refine j_iconst C dX4_addPort_59 ?_
      obtain ⟨z11, g_z11, h⟩ := bd h
      refine j_isub C dX4_addPort_60 g_z11 (fun hz11 => ?_)
      exact j_iret C dX4_addPort_61 hr hz11 h
    · rw [if_neg b1] at h
      refine j_aload_n C dX4_addPort_7 rfl (hl.at 0 rfl) ?_
      obtain ⟨o12, g_o12, h⟩ := bd h
      refine j_gR C dX4_addPort_8 fl_RX4_15 rfl g_o12 ?_
      refine j_aload_n C dX4_addPort_11 rfl (hl.at 0 rfl) ?_
      obtain ⟨v13, g_v13, h⟩ := bd h
      refine j_gI C dX4_addPort_12 fl_RX4_23 (Or.inl rfl) g_v13 (fun hv13 => ?_)
      refine j_iload_n C dX4_addPort_15 rfl (hl.at 3 rfl) ?_
      obtain ⟨z14, g_z14, h⟩ := bd h
      refine j_iadd C dX4_addPort_16 g_z14 (fun hz14 => ?_)
      refine j_iload_n C dX4_addPort_17 rfl (hl.at 2 rfl) ?_
      obtain ⟨S15, g_S15, h⟩ := bd h
      refine j_zast C dX4_addPort_18 hz14 g_S15 ?_
      obtain ⟨z16, g_z16, h⟩ := bd h
      refine k_iinc (k9 := 3) (lv' := [(3, iv z16), (0, rf b a0), (1, iv x1), (2, iv x2)]) C dX4_addPort_19 hl rfl g_z16 (by decide) rfl (fun hz16 ls hl => ?_)
      refine j_goto (tgt := 2) C dX4_addPort_22 (by decide) ?_
      exact ih _ _ _ _ _ hx1 hx2 hz16 h ls (hl.sub [1, 2, 3, 0] rfl)
noncomputable def f_X4_addPort (a0 : Option Nat) (x1 : Int) (x2 : Int) (S : AS) : Option RS :=
  f_X4_addPort_2 FU a0 x1 x2 0 S
set_option maxHeartbeats 4000000 in
set_option maxRecDepth 100000 in
theorem m_X4_addPort {l : Launch} {b : Nat} {D : va_G} {dA : Nat → ClassId} (hst : l.stackTraces = false) {a0 : Option Nat} {x1 : Int} {x2 : Int} {S : AS} {q : RS} (hx1 : inR x1) (hx2 : inR x2) (h : f_X4_addPort a0 x1 x2 S = some q) : hp_M l b D dA yX4_addPort cX4_addPort 4 (some .int) 6 16 [rf b a0, iv x1, iv x2] S 1 q := by
  have hcat : ∀ v ∈ ([rf b a0, iv x1, iv x2] : List Value), v.category = 1 := (by intro v hv; simp only [List.mem_cons, List.not_mem_nil, or_false] at hv; rcases hv with rfl | rfl | rfl <;> first | exact cat_iv _ | exact cat_rf _ _)
  refine hp_ofJ (own := RX4) hst (by decide +kernel) rfl hcat (Nat.le_of_ble_eq_true rfl) ?_
  intro p e R s m args below meth c C hT hnm hr ls hl9
  have hl : hp_L ls 4 [(0, rf b a0), (1, iv x1), (2, iv x2)] := hp_L.of hl9 hcat
  unfold f_X4_addPort at h
  refine j_iconst C dX4_addPort_0 ?_
  refine k_istore_n (lv' := [(3, iv 0), (0, rf b a0), (1, iv x1), (2, iv x2)]) C dX4_addPort_1 rfl hl (by decide) rfl (fun ls hl => ?_)
  exact w_X4_addPort_2 C hT hnm hr FU _ _ _ _ _ hx1 hx2 (by decide) h ls (hl.sub [1, 2, 3, 0] rfl)
noncomputable def f_X4_takePorts (a0 : Option Nat) (a1 : Option Nat) (S : AS) : Option RS :=
  (gR S a1 5 1).bind fun o1 =>
  (gR S a0 5 1).bind fun o2 =>
  (cpy S o1 0 o2 0 16 8).bind fun S3 =>
  (gR S3 a1 5 2).bind fun o4 =>
  (gR S3 a0 5 2).bind fun o5 =>
  (cpy S3 o4 0 o5 0 128 9).bind fun S6 =>
  (gI S6 a1 5 3).bind fun v7 =>
  (pI S6 a0 5 3 v7).bind fun S8 =>
  (gI S8 a1 5 4).bind fun v9 =>
  (pI S8 a0 5 4 v9).bind fun S10 =>
  rV S10
set_option maxHeartbeats 4000000 in
set_option maxRecDepth 100000 in
theorem m_X4_takePorts {l : Launch} {b : Nat} {D : va_G} {dA : Nat → ClassId} (hst : l.stackTraces = false) {a0 : Option Nat} {a1 : Option Nat} {S : AS} {q : RS} (h : f_X4_takePorts a0 a1 S = some q) : hp_M l b D dA yX4_takePorts cX4_takePorts 2 none 6 80 [rf b a0, rf b a1] S 0 q := by
  have hcat : ∀ v ∈ ([rf b a0, rf b a1] : List Value), v.category = 1 := (by intro v hv; simp only [List.mem_cons, List.not_mem_nil, or_false] at hv; rcases hv with rfl | rfl <;> first | exact cat_iv _ | exact cat_rf _ _)
  refine hp_ofJ (own := RX4) hst (by decide +kernel) rfl hcat (Nat.le_of_ble_eq_true rfl) ?_
  intro p e R s m args below meth c C hT hnm hr ls hl9
  have hl : hp_L ls 2 [(0, rf b a0), (1, rf b a1)] := hp_L.of hl9 hcat
  unfold f_X4_takePorts at h
  refine j_aload_n C dX4_takePorts_0 rfl (hl.at 1 rfl) ?_
  obtain ⟨o1, g_o1, h⟩ := bd h
  refine j_gR C dX4_takePorts_1 fl_RX4_9 rfl g_o1 ?_
  refine j_iconst C dX4_takePorts_4 ?_
  refine j_aload_n C dX4_takePorts_5 rfl (hl.at 0 rfl) ?_
  obtain ⟨o2, g_o2, h⟩ := bd h
  refine j_gR C dX4_takePorts_6 fl_RX4_9 rfl g_o2 ?_
  refine j_iconst C dX4_takePorts_9 ?_
  refine j_bipush (x := 16) C dX4_takePorts_10 (by decide) ?_
  obtain ⟨S3, g_S3, h⟩ := bd h
  refine j_copy C dX4_takePorts_12 (by decide) (by decide) (by decide) (by decide) cp_RX4_37 cp_n cp_s cp_i hl.1.1 (by decide) (by decide) g_S3 ?_
  refine j_aload_n C dX4_takePorts_15 rfl (hl.at 1 rfl) ?_
  obtain ⟨o4, g_o4, h⟩ := bd h
  refine j_gR C dX4_takePorts_16 fl_RX4_15 rfl g_o4 ?_
  refine j_iconst C dX4_takePorts_19 ?_
  refine j_aload_n C dX4_takePorts_20 rfl (hl.at 0 rfl) ?_
  obtain ⟨o5, g_o5, h⟩ := bd h
  refine j_gR C dX4_takePorts_21 fl_RX4_15 rfl g_o5 ?_
  refine j_iconst C dX4_takePorts_24 ?_
  refine j_sipush (x := 128) C dX4_takePorts_25 (by decide) ?_
  obtain ⟨S6, g_S6, h⟩ := bd h
  refine j_copy C dX4_takePorts_28 (by decide) (by decide) (by decide) (by decide) cp_RX4_37 cp_n cp_s cp_i hl.1.1 (by decide) (by decide) g_S6 ?_
  refine j_aload_n C dX4_takePorts_31 rfl (hl.at 0 rfl) ?_
  refine j_aload_n C dX4_takePorts_32 rfl (hl.at 1 rfl) ?_
  obtain ⟨v7, g_v7, h⟩ := bd h
  refine j_gI C dX4_takePorts_33 fl_RX4_19 (Or.inl rfl) g_v7 (fun hv7 => ?_)
  obtain ⟨S8, g_S8, h⟩ := bd h
  refine j_pI C dX4_takePorts_36 fl_RX4_19 (Or.inl rfl) rfl hv7 g_S8 ?_
  refine j_aload_n C dX4_takePorts_39 rfl (hl.at 0 rfl) ?_
  refine j_aload_n C dX4_takePorts_40 rfl (hl.at 1 rfl) ?_
  obtain ⟨v9, g_v9, h⟩ := bd h
  refine j_gI C dX4_takePorts_41 fl_RX4_23 (Or.inl rfl) g_v9 (fun hv9 => ?_)
  obtain ⟨S10, g_S10, h⟩ := bd h
  refine j_pI C dX4_takePorts_44 fl_RX4_23 (Or.inl rfl) rfl hv9 g_S10 ?_
  exact j_vret C dX4_takePorts_47 hr h
noncomputable def f_X4_hasPortsOf_29 (n : Nat) (a0 : Option Nat) (a1 : Option Nat) (x2 : Int) (S : AS) : Option RS := match n with
  | 0 => none
  | n + 1 =>
    (gI S a0 5 4).bind fun v1 =>
    if v1 ≤ x2 then
      rZ 1 S
    else
      (gR S a0 5 2).bind fun o2 =>
      (aI S o2 9 x2).bind fun v3 =>
      (gR S a1 5 2).bind fun o4 =>
      (aI S o4 9 x2).bind fun v5 =>
      if v3 = v5 then
        (chk (x2 + 1)).bind fun z6 =>
        f_X4_hasPortsOf_29 n a0 a1 z6 S
      else
        rZ 0 S
set_option maxHeartbeats 4000000 in
set_option maxRecDepth 100000 in
theorem w_X4_hasPortsOf_29 {p : Program} {l : Launch} {e : Env} {R : Room} {s : State} {m : MethodId} {args : Array Value} {below : List Frame} {meth : Method} {c : Code} {b : Nat} {D : va_G} {dA : Nat → ClassId} {S0 : AS} {q : RS} (C : hp_C p l e R s m args below meth c b D dA S0 RX4 cX4_hasPortsOf 3 7 38) (hT : ∀ x ∈ c.exceptionTable.toList, False) (hnm : meth.name = "hasPortsOf") (hr : meth.sig.returnType = (some .boolean)) : ∀ (n : Nat), ∀ (a0 : Option Nat) (a1 : Option Nat) (x2 : Int) (S : AS), inR x2 → f_X4_hasPortsOf_29 n a0 a1 x2 S = some q → ∀ ls : Array Slot, hp_L ls 3 [(0, rf b a0), (1, rf b a1), (2, iv x2)] → hp_J p l e R s m args below meth c b D dA S0 (hp_Q below b D dA S0 1 q args s) S 29 ls [] := by
  have hst : l.stackTraces = false := C.2.2.2.2.2.2.2.2.2.2.1
  intro n
  induction n with
  | zero =>
    intro a0 a1 x2 S hx2 h
    cases h
  | succ n ih =>
    intro a0 a1 x2 S hx2 h ls hl
    unfold f_X4_hasPortsOf_29 at h
    refine j_iload_n C dX4_hasPortsOf_29 rfl (hl.at 2 rfl) ?_
    refine j_aload_n C dX4_hasPortsOf_30 rfl (hl.at 0 rfl) ?_
    obtain ⟨v1, g_v1, h⟩ := bd h
    refine j_gI C dX4_hasPortsOf_31 fl_RX4_23 (Or.inl rfl) g_v1 (fun hv1 => ?_)
    refine j_icmp_ge (tgt := 60) C dX4_hasPortsOf_34 (by decide) hx2 hv1 (fun b1 => ?_) (fun b1 => ?_)
    · rw [if_pos b1] at h
      refine j_iconst C dX4_hasPortsOf_60 ?_
      exact j_zret C dX4_hasPortsOf_61 hr h
    · rw [if_neg b1] at h
      refine j_aload_n C dX4_hasPortsOf_37 rfl (hl.at 0 rfl) ?_
      obtain ⟨o2, g_o2, h⟩ := bd h
      refine j_gR C dX4_hasPortsOf_38 fl_RX4_15 rfl g_o2 ?_
      refine j_iload_n C dX4_hasPortsOf_41 rfl (hl.at 2 rfl) ?_
      obtain ⟨v3, g_v3, h⟩ := bd h
      refine j_zald C dX4_hasPortsOf_42 hx2 g_v3 (fun hv3 => ?_)
      refine j_aload_n C dX4_hasPortsOf_43 rfl (hl.at 1 rfl) ?_
      obtain ⟨o4, g_o4, h⟩ := bd h
      refine j_gR C dX4_hasPortsOf_44 fl_RX4_15 rfl g_o4 ?_
      refine j_iload_n C dX4_hasPortsOf_47 rfl (hl.at 2 rfl) ?_
      obtain ⟨v5, g_v5, h⟩ := bd h
      refine j_zald C dX4_hasPortsOf_48 hx2 g_v5 (fun hv5 => ?_)
      refine j_icmp_eq (tgt := 54) C dX4_hasPortsOf_49 (by decide) hv3 hv5 (fun b1 => ?_) (fun b1 => ?_)
      · rw [if_pos b1] at h
        obtain ⟨z6, g_z6, h⟩ := bd h
        refine k_iinc (k9 := 2) (lv' := [(2, iv z6), (0, rf b a0), (1, rf b a1)]) C dX4_hasPortsOf_54 hl rfl g_z6 (by decide) rfl (fun hz6 ls hl => ?_)
        refine j_goto (tgt := 29) C dX4_hasPortsOf_57 (by decide) ?_
        exact ih _ _ _ _ hz6 h ls (hl.sub [1, 2, 0] rfl)
      · rw [if_neg b1] at h
        refine j_iconst C dX4_hasPortsOf_52 ?_
        exact j_zret C dX4_hasPortsOf_53 hr h
noncomputable def f_X4_hasPortsOf (a0 : Option Nat) (a1 : Option Nat) (S : AS) : Option RS :=
  (gI S a0 5 3).bind fun v1 =>
  (gI S a1 5 3).bind fun v2 =>
  if v1 = v2 then
    (gR S a0 5 1).bind fun o3 =>
    (gR S a1 5 1).bind fun o4 =>
    cM (f_X5_isSameRow o3 o4 S) fun v6 S5 =>
    if v6 = 0 then
      rZ 0 S5
    else
      f_X4_hasPortsOf_29 FU a0 a1 0 S5
  else
    rZ 0 S
set_option maxHeartbeats 4000000 in
set_option maxRecDepth 100000 in
theorem m_X4_hasPortsOf {l : Launch} {b : Nat} {D : va_G} {dA : Nat → ClassId} (hst : l.stackTraces = false) {a0 : Option Nat} {a1 : Option Nat} {S : AS} {q : RS} (h : f_X4_hasPortsOf a0 a1 S = some q) : hp_M l b D dA yX4_hasPortsOf cX4_hasPortsOf 3 (some .boolean) 7 38 [rf b a0, rf b a1] S 1 q := by
  have hcat : ∀ v ∈ ([rf b a0, rf b a1] : List Value), v.category = 1 := (by intro v hv; simp only [List.mem_cons, List.not_mem_nil, or_false] at hv; rcases hv with rfl | rfl <;> first | exact cat_iv _ | exact cat_rf _ _)
  refine hp_ofJ (own := RX4) hst (by decide +kernel) rfl hcat (Nat.le_of_ble_eq_true rfl) ?_
  intro p e R s m args below meth c C hT hnm hr ls hl9
  have hl : hp_L ls 3 [(0, rf b a0), (1, rf b a1)] := hp_L.of hl9 hcat
  unfold f_X4_hasPortsOf at h
  refine j_aload_n C dX4_hasPortsOf_0 rfl (hl.at 0 rfl) ?_
  obtain ⟨v1, g_v1, h⟩ := bd h
  refine j_gI C dX4_hasPortsOf_1 fl_RX4_19 (Or.inl rfl) g_v1 (fun hv1 => ?_)
  refine j_aload_n C dX4_hasPortsOf_4 rfl (hl.at 1 rfl) ?_
  obtain ⟨v2, g_v2, h⟩ := bd h
  refine j_gI C dX4_hasPortsOf_5 fl_RX4_19 (Or.inl rfl) g_v2 (fun hv2 => ?_)
  refine j_icmp_ne (tgt := 25) C dX4_hasPortsOf_8 (by decide) hv1 hv2 (fun b1 => ?_) (fun b1 => ?_)
  · rw [if_neg b1] at h
    refine j_iconst C dX4_hasPortsOf_25 ?_
    exact j_zret C dX4_hasPortsOf_26 hr h
  · rw [if_pos (Decidable.byContradiction b1)] at h
    refine j_aload_n C dX4_hasPortsOf_11 rfl (hl.at 0 rfl) ?_
    obtain ⟨o3, g_o3, h⟩ := bd h
    refine j_gR C dX4_hasPortsOf_12 fl_RX4_9 rfl g_o3 ?_
    refine j_aload_n C dX4_hasPortsOf_15 rfl (hl.at 1 rfl) ?_
    obtain ⟨o4, g_o4, h⟩ := bd h
    refine j_gR C dX4_hasPortsOf_16 fl_RX4_9 rfl g_o4 ?_
    obtain ⟨S5, v6, wv6, hc, h⟩ := cM_some h
    refine j_callI C (run_SN (As := [rf b o3, rf b o4]) (rest := []) C (m_X5_isSameRow hst hc) rfl cn_RX4_43 sm_X5_isSameRow rfl hl.1.1 (by decide) (by decide) (by decide) dX4_hasPortsOf_19) (fun hv6 => ?_)
    refine j_if_ne (tgt := 27) C dX4_hasPortsOf_22 (by decide) hv6 (fun b1 => ?_) (fun b1 => ?_)
    · rw [if_neg b1] at h
      refine j_iconst C dX4_hasPortsOf_27 ?_
      refine k_istore_n (lv' := [(2, iv 0), (0, rf b a0), (1, rf b a1)]) C dX4_hasPortsOf_28 rfl hl (by decide) rfl (fun ls hl => ?_)
      exact w_X4_hasPortsOf_29 C hT hnm hr FU _ _ _ _ (by decide) h ls (hl.sub [1, 2, 0] rfl)
    · rw [if_pos (Decidable.byContradiction b1)] at h
      refine j_iconst C dX4_hasPortsOf_25 ?_
      exact j_zret C dX4_hasPortsOf_26 hr h
noncomputable def f_X2_init (a0 : Option Nat) (S : AS) : Option RS :=
  gd a0.isSome <|
  (nA S 11 24).bind fun S2 =>
  (pR S2 a0 3 0 (some (hn S))).bind fun S3 =>
  (nA S3 9 24).bind fun S4 =>
  (pR S4 a0 3 1 (some (hn S3))).bind fun S5 =>
  (pI S5 a0 3 2 0).bind fun S6 =>
  rV S6
set_option maxHeartbeats 4000000 in
set_option maxRecDepth 100000 in
theorem m_X2_init {l : Launch} {b : Nat} {D : va_G} {dA : Nat → ClassId} (hst : l.stackTraces = false) {a0 : Option Nat} {S : AS} {q : RS} (h : f_X2_init a0 S = some q) : hp_M l b D dA yX2_init cX2_init 1 none 6 20 [rf b a0] S 0 q := by
  have hcat : ∀ v ∈ ([rf b a0] : List Value), v.category = 1 := (by intro v hv; simp only [List.mem_cons, List.not_mem_nil, or_false] at hv; rcases hv with rfl <;> first | exact cat_iv _ | exact cat_rf _ _)
  refine hp_ofJ (own := RX2) hst (by decide +kernel) rfl hcat (Nat.le_of_ble_eq_true rfl) ?_
  intro p e R s m args below meth c C hT hnm hr ls hl9
  have hl : hp_L ls 1 [(0, rf b a0)] := hp_L.of hl9 hcat
  unfold f_X2_init at h
  refine j_aload_n C dX2_init_0 rfl (hl.at 0 rfl) ?_
  obtain ⟨c1, h⟩ := gd_some h
  refine j_objInit C dX2_init_1 c1 oi_RX2_3 oi_1 oi_2 hl.1.1 (by decide) (by decide) ?_
  refine j_aload_n C dX2_init_4 rfl (hl.at 0 rfl) ?_
  refine j_bipush (x := 24) C dX2_init_5 (by decide) ?_
  obtain ⟨S2, g_S2, h⟩ := bd h
  refine j_anew (ci := 4) C dX2_init_7 (by decide) cl_RX2_9 (by decide) g_S2 ?_
  obtain ⟨S3, g_S3, h⟩ := bd h
  refine j_pR C dX2_init_10 fl_RX2_11 (Or.inr ⟨rfl, hnm, rfl⟩) rfl g_S3 ?_
  refine j_aload_n C dX2_init_13 rfl (hl.at 0 rfl) ?_
  refine j_bipush (x := 24) C dX2_init_14 (by decide) ?_
  obtain ⟨S4, g_S4, h⟩ := bd h
  refine j_newa C dX2_init_16 (Or.inr (Or.inl ⟨rfl, rfl⟩)) ac_9 (by decide) g_S4 ?_
  obtain ⟨S5, g_S5, h⟩ := bd h
  refine j_pR C dX2_init_18 fl_RX2_17 (Or.inr ⟨rfl, hnm, rfl⟩) rfl g_S5 ?_
  refine j_aload_n C dX2_init_21 rfl (hl.at 0 rfl) ?_
  refine j_iconst C dX2_init_22 ?_
  obtain ⟨S6, g_S6, h⟩ := bd h
  refine j_pI C dX2_init_23 fl_RX2_21 (Or.inl rfl) rfl (by decide) g_S6 ?_
  exact j_vret C dX2_init_26 hr h
noncomputable def f_X2_restart_7 (n : Nat) (a0 : Option Nat) (x1 : Int) (S : AS) : Option RS := match n with
  | 0 => none
  | n + 1 =>
    if 24 ≤ x1 then
      rV S
    else
      (gR S a0 3 1).bind fun o1 =>
      (sZ S o1 x1 0).bind fun S2 =>
      (chk (x1 + 1)).bind fun z3 =>
      f_X2_restart_7 n a0 z3 S2
set_option maxHeartbeats 4000000 in
set_option maxRecDepth 100000 in
theorem w_X2_restart_7 {p : Program} {l : Launch} {e : Env} {R : Room} {s : State} {m : MethodId} {args : Array Value} {below : List Frame} {meth : Method} {c : Code} {b : Nat} {D : va_G} {dA : Nat → ClassId} {S0 : AS} {q : RS} (C : hp_C p l e R s m args below meth c b D dA S0 RX2 cX2_restart 2 6 16) (hT : ∀ x ∈ c.exceptionTable.toList, False) (hnm : meth.name = "restart") (hr : meth.sig.returnType = none) : ∀ (n : Nat), ∀ (a0 : Option Nat) (x1 : Int) (S : AS), inR x1 → f_X2_restart_7 n a0 x1 S = some q → ∀ ls : Array Slot, hp_L ls 2 [(0, rf b a0), (1, iv x1)] → hp_J p l e R s m args below meth c b D dA S0 (hp_Q below b D dA S0 0 q args s) S 7 ls [] := by
  have hst : l.stackTraces = false := C.2.2.2.2.2.2.2.2.2.2.1
  intro n
  induction n with
  | zero =>
    intro a0 x1 S hx1 h
    cases h
  | succ n ih =>
    intro a0 x1 S hx1 h ls hl
    unfold f_X2_restart_7 at h
    refine j_iload_n C dX2_restart_7 rfl (hl.at 1 rfl) ?_
    refine j_bipush (x := 24) C dX2_restart_8 (by decide) ?_
    refine j_icmp_ge (tgt := 26) C dX2_restart_10 (by decide) hx1 (by decide) (fun b1 => ?_) (fun b1 => ?_)
    · rw [if_pos b1] at h
      exact j_vret C dX2_restart_26 hr h
    · rw [if_neg b1] at h
      refine j_aload_n C dX2_restart_13 rfl (hl.at 0 rfl) ?_
      obtain ⟨o1, g_o1, h⟩ := bd h
      refine j_gR C dX2_restart_14 fl_RX2_17 rfl g_o1 ?_
      refine j_iload_n C dX2_restart_17 rfl (hl.at 1 rfl) ?_
      refine j_iconst C dX2_restart_18 ?_
      obtain ⟨S2, g_S2, h⟩ := bd h
      refine j_zast C dX2_restart_19 hx1 g_S2 ?_
      obtain ⟨z3, g_z3, h⟩ := bd h
      refine k_iinc (k9 := 1) (lv' := [(1, iv z3), (0, rf b a0)]) C dX2_restart_20 hl rfl g_z3 (by decide) rfl (fun hz3 ls hl => ?_)
      refine j_goto (tgt := 7) C dX2_restart_23 (by decide) ?_
      exact ih _ _ _ hz3 h ls (hl.sub [1, 0] rfl)
noncomputable def f_X2_restart (a0 : Option Nat) (S : AS) : Option RS :=
  (pI S a0 3 2 0).bind fun S1 =>
  f_X2_restart_7 FU a0 0 S1
set_option maxHeartbeats 4000000 in
set_option maxRecDepth 100000 in
theorem m_X2_restart {l : Launch} {b : Nat} {D : va_G} {dA : Nat → ClassId} (hst : l.stackTraces = false) {a0 : Option Nat} {S : AS} {q : RS} (h : f_X2_restart a0 S = some q) : hp_M l b D dA yX2_restart cX2_restart 2 none 6 16 [rf b a0] S 0 q := by
  have hcat : ∀ v ∈ ([rf b a0] : List Value), v.category = 1 := (by intro v hv; simp only [List.mem_cons, List.not_mem_nil, or_false] at hv; rcases hv with rfl <;> first | exact cat_iv _ | exact cat_rf _ _)
  refine hp_ofJ (own := RX2) hst (by decide +kernel) rfl hcat (Nat.le_of_ble_eq_true rfl) ?_
  intro p e R s m args below meth c C hT hnm hr ls hl9
  have hl : hp_L ls 2 [(0, rf b a0)] := hp_L.of hl9 hcat
  unfold f_X2_restart at h
  refine j_aload_n C dX2_restart_0 rfl (hl.at 0 rfl) ?_
  refine j_iconst C dX2_restart_1 ?_
  obtain ⟨S1, g_S1, h⟩ := bd h
  refine j_pI C dX2_restart_2 fl_RX2_21 (Or.inl rfl) rfl (by decide) g_S1 ?_
  refine j_iconst C dX2_restart_5 ?_
  refine k_istore_n (lv' := [(1, iv 0), (0, rf b a0)]) C dX2_restart_6 rfl hl (by decide) rfl (fun ls hl => ?_)
  exact w_X2_restart_7 C hT hnm hr FU _ _ _ (by decide) h ls (hl.sub [1, 0] rfl)
noncomputable def f_X2_add (a0 : Option Nat) (a1 : Option Nat) (S : AS) : Option RS :=
  (gR S a0 3 0).bind fun o1 =>
  (gI S a0 3 2).bind fun v2 =>
  (sR S o1 11 v2 a1).bind fun S3 =>
  (gI S3 a0 3 2).bind fun v4 =>
  (chk (v4 + 1)).bind fun z5 =>
  (pI S3 a0 3 2 z5).bind fun S6 =>
  rV S6
set_option maxHeartbeats 4000000 in
set_option maxRecDepth 100000 in
theorem m_X2_add {l : Launch} {b : Nat} {D : va_G} {dA : Nat → ClassId} (hst : l.stackTraces = false) {a0 : Option Nat} {a1 : Option Nat} {S : AS} {q : RS} (h : f_X2_add a0 a1 S = some q) : hp_M l b D dA yX2_add cX2_add 2 none 6 16 [rf b a0, rf b a1] S 0 q := by
  have hcat : ∀ v ∈ ([rf b a0, rf b a1] : List Value), v.category = 1 := (by intro v hv; simp only [List.mem_cons, List.not_mem_nil, or_false] at hv; rcases hv with rfl | rfl <;> first | exact cat_iv _ | exact cat_rf _ _)
  refine hp_ofJ (own := RX2) hst (by decide +kernel) rfl hcat (Nat.le_of_ble_eq_true rfl) ?_
  intro p e R s m args below meth c C hT hnm hr ls hl9
  have hl : hp_L ls 2 [(0, rf b a0), (1, rf b a1)] := hp_L.of hl9 hcat
  unfold f_X2_add at h
  refine j_aload_n C dX2_add_0 rfl (hl.at 0 rfl) ?_
  obtain ⟨o1, g_o1, h⟩ := bd h
  refine j_gR C dX2_add_1 fl_RX2_11 rfl g_o1 ?_
  refine j_aload_n C dX2_add_4 rfl (hl.at 0 rfl) ?_
  obtain ⟨v2, g_v2, h⟩ := bd h
  refine j_gI C dX2_add_5 fl_RX2_21 (Or.inl rfl) g_v2 (fun hv2 => ?_)
  refine j_aload_n C dX2_add_8 rfl (hl.at 1 rfl) ?_
  obtain ⟨S3, g_S3, h⟩ := bd h
  refine j_aast C dX2_add_9 (by decide) hv2 g_S3 ?_
  refine j_aload_n C dX2_add_10 rfl (hl.at 0 rfl) ?_
  refine j_dup C dX2_add_11 (cat_rf _ _) ?_
  obtain ⟨v4, g_v4, h⟩ := bd h
  refine j_gI C dX2_add_12 fl_RX2_21 (Or.inl rfl) g_v4 (fun hv4 => ?_)
  refine j_iconst C dX2_add_15 ?_
  obtain ⟨z5, g_z5, h⟩ := bd h
  refine j_iadd C dX2_add_16 g_z5 (fun hz5 => ?_)
  obtain ⟨S6, g_S6, h⟩ := bd h
  refine j_pI C dX2_add_17 fl_RX2_21 (Or.inl rfl) rfl hz5 g_S6 ?_
  exact j_vret C dX2_add_20 hr h
noncomputable def f_X1_init (a0 : Option Nat) (S : AS) : Option RS :=
  gd a0.isSome <|
  (nA S 8 3000).bind fun S2 =>
  (pR S2 a0 2 0 (some (hn S))).bind fun S3 =>
  (nA S3 8 24).bind fun S4 =>
  (pR S4 a0 2 1 (some (hn S3))).bind fun S5 =>
  (nA S5 10 64).bind fun S6 =>
  (pR S6 a0 2 2 (some (hn S5))).bind fun S7 =>
  (nA S7 8 64).bind fun S8 =>
  (pR S8 a0 2 3 (some (hn S7))).bind fun S9 =>
  (nA S9 12 64).bind fun S10 =>
  (pR S10 a0 2 4 (some (hn S9))).bind fun S11 =>
  (pI S11 a0 2 5 0).bind fun S12 =>
  (pI S12 a0 2 6 0).bind fun S13 =>
  rV S13
set_option maxHeartbeats 4000000 in
set_option maxRecDepth 100000 in
theorem m_X1_init {l : Launch} {b : Nat} {D : va_G} {dA : Nat → ClassId} (hst : l.stackTraces = false) {a0 : Option Nat} {S : AS} {q : RS} (h : f_X1_init a0 S = some q) : hp_M l b D dA yX1_init cX1_init 1 none 6 20 [rf b a0] S 0 q := by
  have hcat : ∀ v ∈ ([rf b a0] : List Value), v.category = 1 := (by intro v hv; simp only [List.mem_cons, List.not_mem_nil, or_false] at hv; rcases hv with rfl <;> first | exact cat_iv _ | exact cat_rf _ _)
  refine hp_ofJ (own := RX1) hst (by decide +kernel) rfl hcat (Nat.le_of_ble_eq_true rfl) ?_
  intro p e R s m args below meth c C hT hnm hr ls hl9
  have hl : hp_L ls 1 [(0, rf b a0)] := hp_L.of hl9 hcat
  unfold f_X1_init at h
  refine j_aload_n C dX1_init_0 rfl (hl.at 0 rfl) ?_
  obtain ⟨c1, h⟩ := gd_some h
  refine j_objInit C dX1_init_1 c1 oi_RX1_3 oi_1 oi_2 hl.1.1 (by decide) (by decide) ?_
  refine j_aload_n C dX1_init_4 rfl (hl.at 0 rfl) ?_
  refine j_sipush (x := 3000) C dX1_init_5 (by decide) ?_
  obtain ⟨S2, g_S2, h⟩ := bd h
  refine j_newa C dX1_init_8 (Or.inl ⟨rfl, rfl⟩) ac_8 (by decide) g_S2 ?_
  obtain ⟨S3, g_S3, h⟩ := bd h
  refine j_pR C dX1_init_10 fl_RX1_9 (Or.inr ⟨rfl, hnm, rfl⟩) rfl g_S3 ?_
  refine j_aload_n C dX1_init_13 rfl (hl.at 0 rfl) ?_
  refine j_bipush (x := 24) C dX1_init_14 (by decide) ?_
  obtain ⟨S4, g_S4, h⟩ := bd h
  refine j_newa C dX1_init_16 (Or.inl ⟨rfl, rfl⟩) ac_8 (by decide) g_S4 ?_
  obtain ⟨S5, g_S5, h⟩ := bd h
  refine j_pR C dX1_init_18 fl_RX1_15 (Or.inr ⟨rfl, hnm, rfl⟩) rfl g_S5 ?_
  refine j_aload_n C dX1_init_21 rfl (hl.at 0 rfl) ?_
  refine j_bipush (x := 64) C dX1_init_22 (by decide) ?_
  obtain ⟨S6, g_S6, h⟩ := bd h
  refine j_anew (ci := 3) C dX1_init_24 (by decide) cl_RX1_18 (by decide) g_S6 ?_
  obtain ⟨S7, g_S7, h⟩ := bd h
  refine j_pR C dX1_init_27 fl_RX1_20 (Or.inr ⟨rfl, hnm, rfl⟩) rfl g_S7 ?_
  refine j_aload_n C dX1_init_30 rfl (hl.at 0 rfl) ?_
  refine j_bipush (x := 64) C dX1_init_31 (by decide) ?_
  obtain ⟨S8, g_S8, h⟩ := bd h
  refine j_newa C dX1_init_33 (Or.inl ⟨rfl, rfl⟩) ac_8 (by decide) g_S8 ?_
  obtain ⟨S9, g_S9, h⟩ := bd h
  refine j_pR C dX1_init_35 fl_RX1_24 (Or.inr ⟨rfl, hnm, rfl⟩) rfl g_S9 ?_
  refine j_aload_n C dX1_init_38 rfl (hl.at 0 rfl) ?_
  refine j_bipush (x := 64) C dX1_init_39 (by decide) ?_
  obtain ⟨S10, g_S10, h⟩ := bd h
  refine j_anewA C dX1_init_41 cl_RX1_27 (by decide) g_S10 ?_
  obtain ⟨S11, g_S11, h⟩ := bd h
  refine j_pR C dX1_init_44 fl_RX1_28 (Or.inr ⟨rfl, hnm, rfl⟩) rfl g_S11 ?_
  refine j_aload_n C dX1_init_47 rfl (hl.at 0 rfl) ?_
  refine j_iconst C dX1_init_48 ?_
  obtain ⟨S12, g_S12, h⟩ := bd h
  refine j_pI C dX1_init_49 fl_RX1_32 (Or.inl rfl) rfl (by decide) g_S12 ?_
  refine j_aload_n C dX1_init_52 rfl (hl.at 0 rfl) ?_
  refine j_iconst C dX1_init_53 ?_
  obtain ⟨S13, g_S13, h⟩ := bd h
  refine j_pI C dX1_init_54 fl_RX1_36 (Or.inl rfl) rfl (by decide) g_S13 ?_
  exact j_vret C dX1_init_57 hr h
noncomputable def f_X1_restart (a0 : Option Nat) (S : AS) : Option RS :=
  (pI S a0 2 5 0).bind fun S1 =>
  (pI S1 a0 2 6 0).bind fun S2 =>
  rV S2
set_option maxHeartbeats 4000000 in
set_option maxRecDepth 100000 in
theorem m_X1_restart {l : Launch} {b : Nat} {D : va_G} {dA : Nat → ClassId} (hst : l.stackTraces = false) {a0 : Option Nat} {S : AS} {q : RS} (h : f_X1_restart a0 S = some q) : hp_M l b D dA yX1_restart cX1_restart 1 none 6 16 [rf b a0] S 0 q := by
  have hcat : ∀ v ∈ ([rf b a0] : List Value), v.category = 1 := (by intro v hv; simp only [List.mem_cons, List.not_mem_nil, or_false] at hv; rcases hv with rfl <;> first | exact cat_iv _ | exact cat_rf _ _)
  refine hp_ofJ (own := RX1) hst (by decide +kernel) rfl hcat (Nat.le_of_ble_eq_true rfl) ?_
  intro p e R s m args below meth c C hT hnm hr ls hl9
  have hl : hp_L ls 1 [(0, rf b a0)] := hp_L.of hl9 hcat
  unfold f_X1_restart at h
  refine j_aload_n C dX1_restart_0 rfl (hl.at 0 rfl) ?_
  refine j_iconst C dX1_restart_1 ?_
  obtain ⟨S1, g_S1, h⟩ := bd h
  refine j_pI C dX1_restart_2 fl_RX1_32 (Or.inl rfl) rfl (by decide) g_S1 ?_
  refine j_aload_n C dX1_restart_5 rfl (hl.at 0 rfl) ?_
  refine j_iconst C dX1_restart_6 ?_
  obtain ⟨S2, g_S2, h⟩ := bd h
  refine j_pI C dX1_restart_7 fl_RX1_36 (Or.inl rfl) rfl (by decide) g_S2 ?_
  exact j_vret C dX1_restart_10 hr h
noncomputable def f_X1_addNets_7 (n : Nat) (a0 : Option Nat) (x1 : Int) (x2 : Int) (x3 : Int) (S : AS) : Option RS := match n with
  | 0 => none
  | n + 1 =>
    if x1 ≤ x3 then
      rI x2 S
    else
      (gR S a0 2 0).bind fun o1 =>
      (gI S a0 2 5).bind fun v2 =>
      (gI S a0 2 5).bind fun v3 =>
      (sI S o1 8 v2 v3).bind fun S4 =>
      (gI S4 a0 2 5).bind fun v5 =>
      (chk (v5 + 1)).bind fun z6 =>
      (pI S4 a0 2 5 z6).bind fun S7 =>
      (chk (x3 + 1)).bind fun z8 =>
      f_X1_addNets_7 n a0 x1 x2 z8 S7
set_option maxHeartbeats 4000000 in
set_option maxRecDepth 100000 in
theorem w_X1_addNets_7 {p : Program} {l : Launch} {e : Env} {R : Room} {s : State} {m : MethodId} {args : Array Value} {below : List Frame} {meth : Method} {c : Code} {b : Nat} {D : va_G} {dA : Nat → ClassId} {S0 : AS} {q : RS} (C : hp_C p l e R s m args below meth c b D dA S0 RX1 cX1_addNets 4 6 16) (hT : ∀ x ∈ c.exceptionTable.toList, False) (hnm : meth.name = "addNets") (hr : meth.sig.returnType = (some .int)) : ∀ (n : Nat), ∀ (a0 : Option Nat) (x1 : Int) (x2 : Int) (x3 : Int) (S : AS), inR x1 → inR x2 → inR x3 → f_X1_addNets_7 n a0 x1 x2 x3 S = some q → ∀ ls : Array Slot, hp_L ls 4 [(0, rf b a0), (1, iv x1), (2, iv x2), (3, iv x3)] → hp_J p l e R s m args below meth c b D dA S0 (hp_Q below b D dA S0 1 q args s) S 7 ls [] := by
  have hst : l.stackTraces = false := C.2.2.2.2.2.2.2.2.2.2.1
  intro n
  induction n with
  | zero =>
    intro a0 x1 x2 x3 S hx1 hx2 hx3 h
    cases h
  | succ n ih =>
    intro a0 x1 x2 x3 S hx1 hx2 hx3 h ls hl
    unfold f_X1_addNets_7 at h
    refine j_iload_n C dX1_addNets_7 rfl (hl.at 3 rfl) ?_
    refine j_iload_n C dX1_addNets_8 rfl (hl.at 1 rfl) ?_
    refine j_icmp_ge (tgt := 41) C dX1_addNets_9 (by decide) hx3 hx1 (fun b1 => ?_) (fun b1 => ?_)
    · rw [if_pos b1] at h
      refine j_iload_n C dX1_addNets_41 rfl (hl.at 2 rfl) ?_
      exact j_iret C dX1_addNets_42 hr hx2 h
    · rw [if_neg b1] at h
      refine j_aload_n C dX1_addNets_12 rfl (hl.at 0 rfl) ?_
      obtain ⟨o1, g_o1, h⟩ := bd h
      refine j_gR C dX1_addNets_13 fl_RX1_9 rfl g_o1 ?_
      refine j_aload_n C dX1_addNets_16 rfl (hl.at 0 rfl) ?_
      obtain ⟨v2, g_v2, h⟩ := bd h
      refine j_gI C dX1_addNets_17 fl_RX1_32 (Or.inl rfl) g_v2 (fun hv2 => ?_)
      refine j_aload_n C dX1_addNets_20 rfl (hl.at 0 rfl) ?_
      obtain ⟨v3, g_v3, h⟩ := bd h
      refine j_gI C dX1_addNets_21 fl_RX1_32 (Or.inl rfl) g_v3 (fun hv3 => ?_)
      obtain ⟨S4, g_S4, h⟩ := bd h
      refine j_iast C dX1_addNets_24 hv2 hv3 g_S4 ?_
      refine j_aload_n C dX1_addNets_25 rfl (hl.at 0 rfl) ?_
      refine j_dup C dX1_addNets_26 (cat_rf _ _) ?_
      obtain ⟨v5, g_v5, h⟩ := bd h
      refine j_gI C dX1_addNets_27 fl_RX1_32 (Or.inl rfl) g_v5 (fun hv5 => ?_)
      refine j_iconst C dX1_addNets_30 ?_
      obtain ⟨z6, g_z6, h⟩ := bd h
      refine j_iadd C dX1_addNets_31 g_z6 (fun hz6 => ?_)
      obtain ⟨S7, g_S7, h⟩ := bd h
      refine j_pI C dX1_addNets_32 fl_RX1_32 (Or.inl rfl) rfl hz6 g_S7 ?_
      obtain ⟨z8, g_z8, h⟩ := bd h
      refine k_iinc (k9 := 3) (lv' := [(3, iv z8), (0, rf b a0), (1, iv x1), (2, iv x2)]) C dX1_addNets_35 hl rfl g_z8 (by decide) rfl (fun hz8 ls hl => ?_)
      refine j_goto (tgt := 7) C dX1_addNets_38 (by decide) ?_
      exact ih _ _ _ _ _ hx1 hx2 hz8 h ls (hl.sub [1, 2, 3, 0] rfl)
noncomputable def f_X1_addNets (a0 : Option Nat) (x1 : Int) (S : AS) : Option RS :=
  (gI S a0 2 5).bind fun v1 =>
  f_X1_addNets_7 FU a0 x1 v1 0 S
set_option maxHeartbeats 4000000 in
set_option maxRecDepth 100000 in
theorem m_X1_addNets {l : Launch} {b : Nat} {D : va_G} {dA : Nat → ClassId} (hst : l.stackTraces = false) {a0 : Option Nat} {x1 : Int} {S : AS} {q : RS} (hx1 : inR x1) (h : f_X1_addNets a0 x1 S = some q) : hp_M l b D dA yX1_addNets cX1_addNets 4 (some .int) 6 16 [rf b a0, iv x1] S 1 q := by
  have hcat : ∀ v ∈ ([rf b a0, iv x1] : List Value), v.category = 1 := (by intro v hv; simp only [List.mem_cons, List.not_mem_nil, or_false] at hv; rcases hv with rfl | rfl <;> first | exact cat_iv _ | exact cat_rf _ _)
  refine hp_ofJ (own := RX1) hst (by decide +kernel) rfl hcat (Nat.le_of_ble_eq_true rfl) ?_
  intro p e R s m args below meth c C hT hnm hr ls hl9
  have hl : hp_L ls 4 [(0, rf b a0), (1, iv x1)] := hp_L.of hl9 hcat
  unfold f_X1_addNets at h
  refine j_aload_n C dX1_addNets_0 rfl (hl.at 0 rfl) ?_
  obtain ⟨v1, g_v1, h⟩ := bd h
  refine j_gI C dX1_addNets_1 fl_RX1_32 (Or.inl rfl) g_v1 (fun hv1 => ?_)
  refine k_istore_n (lv' := [(2, iv v1), (0, rf b a0), (1, iv x1)]) C dX1_addNets_4 rfl hl (by decide) rfl (fun ls hl => ?_)
  refine j_iconst C dX1_addNets_5 ?_
  refine k_istore_n (lv' := [(3, iv 0), (2, iv v1), (0, rf b a0), (1, iv x1)]) C dX1_addNets_6 rfl hl (by decide) rfl (fun ls hl => ?_)
  exact w_X1_addNets_7 C hT hnm hr FU _ _ _ _ _ hx1 hv1 (by decide) h ls (hl.sub [2, 3, 1, 0] rfl)
noncomputable def f_X1_addLeaf (a0 : Option Nat) (a1 : Option Nat) (x2 : Int) (x3 : Int) (S : AS) : Option RS :=
  (gR S a0 2 2).bind fun o1 =>
  (gI S a0 2 6).bind fun v2 =>
  (sR S o1 10 v2 a1).bind fun S3 =>
  (gR S3 a0 2 3).bind fun o4 =>
  (gI S3 a0 2 6).bind fun v5 =>
  (sI S3 o4 8 v5 x2).bind fun S6 =>
  (gR S6 a0 2 4).bind fun o7 =>
  (gI S6 a0 2 6).bind fun v8 =>
  (gR S6 a0 2 1).bind fun o9 =>
  cR (f_J7_copyOf_59c91 o9 x3 S6) fun o11 S10 =>
  (sR S10 o7 12 v8 o11).bind fun S12 =>
  (gI S12 a0 2 6).bind fun v13 =>
  (chk (v13 + 1)).bind fun z14 =>
  (pI S12 a0 2 6 z14).bind fun S15 =>
  rV S15
set_option maxHeartbeats 4000000 in
set_option maxRecDepth 100000 in
theorem m_X1_addLeaf {l : Launch} {b : Nat} {D : va_G} {dA : Nat → ClassId} (hst : l.stackTraces = false) {a0 : Option Nat} {a1 : Option Nat} {x2 : Int} {x3 : Int} {S : AS} {q : RS} (hx2 : inR x2) (hx3 : inR x3) (h : f_X1_addLeaf a0 a1 x2 x3 S = some q) : hp_M l b D dA yX1_addLeaf cX1_addLeaf 4 none 7 102 [rf b a0, rf b a1, iv x2, iv x3] S 0 q := by
  have hcat : ∀ v ∈ ([rf b a0, rf b a1, iv x2, iv x3] : List Value), v.category = 1 := (by intro v hv; simp only [List.mem_cons, List.not_mem_nil, or_false] at hv; rcases hv with rfl | rfl | rfl | rfl <;> first | exact cat_iv _ | exact cat_rf _ _)
  refine hp_ofJ (own := RX1) hst (by decide +kernel) rfl hcat (Nat.le_of_ble_eq_true rfl) ?_
  intro p e R s m args below meth c C hT hnm hr ls hl9
  have hl : hp_L ls 4 [(0, rf b a0), (1, rf b a1), (2, iv x2), (3, iv x3)] := hp_L.of hl9 hcat
  unfold f_X1_addLeaf at h
  refine j_aload_n C dX1_addLeaf_0 rfl (hl.at 0 rfl) ?_
  obtain ⟨o1, g_o1, h⟩ := bd h
  refine j_gR C dX1_addLeaf_1 fl_RX1_20 rfl g_o1 ?_
  refine j_aload_n C dX1_addLeaf_4 rfl (hl.at 0 rfl) ?_
  obtain ⟨v2, g_v2, h⟩ := bd h
  refine j_gI C dX1_addLeaf_5 fl_RX1_36 (Or.inl rfl) g_v2 (fun hv2 => ?_)
  refine j_aload_n C dX1_addLeaf_8 rfl (hl.at 1 rfl) ?_
  obtain ⟨S3, g_S3, h⟩ := bd h
  refine j_aast C dX1_addLeaf_9 (by decide) hv2 g_S3 ?_
  refine j_aload_n C dX1_addLeaf_10 rfl (hl.at 0 rfl) ?_
  obtain ⟨o4, g_o4, h⟩ := bd h
  refine j_gR C dX1_addLeaf_11 fl_RX1_24 rfl g_o4 ?_
  refine j_aload_n C dX1_addLeaf_14 rfl (hl.at 0 rfl) ?_
  obtain ⟨v5, g_v5, h⟩ := bd h
  refine j_gI C dX1_addLeaf_15 fl_RX1_36 (Or.inl rfl) g_v5 (fun hv5 => ?_)
  refine j_iload_n C dX1_addLeaf_18 rfl (hl.at 2 rfl) ?_
  obtain ⟨S6, g_S6, h⟩ := bd h
  refine j_iast C dX1_addLeaf_19 hv5 hx2 g_S6 ?_
  refine j_aload_n C dX1_addLeaf_20 rfl (hl.at 0 rfl) ?_
  obtain ⟨o7, g_o7, h⟩ := bd h
  refine j_gR C dX1_addLeaf_21 fl_RX1_28 rfl g_o7 ?_
  refine j_aload_n C dX1_addLeaf_24 rfl (hl.at 0 rfl) ?_
  obtain ⟨v8, g_v8, h⟩ := bd h
  refine j_gI C dX1_addLeaf_25 fl_RX1_36 (Or.inl rfl) g_v8 (fun hv8 => ?_)
  refine j_aload_n C dX1_addLeaf_28 rfl (hl.at 0 rfl) ?_
  obtain ⟨o9, g_o9, h⟩ := bd h
  refine j_gR C dX1_addLeaf_29 fl_RX1_15 rfl g_o9 ?_
  refine j_iload_n C dX1_addLeaf_32 rfl (hl.at 3 rfl) ?_
  rcases cR_some h with ⟨S10, wo11, o11, hc, h⟩ | ⟨hc, hne⟩
  · refine j_callR C (run_S (As := [rf b o9, iv x3]) (rest := [iv v8, rf b o7]) C (m_J7_copyOf_59c91 hst hx3 hc) cs_RX1_39 rfl hl.1.1 (by simp [cat_iv, cat_rf]) (by decide) (by decide) dX1_addLeaf_33) ?_
    obtain ⟨S12, g_S12, h⟩ := bd h
    refine j_aastA C dX1_addLeaf_36 hv8 g_S12 ?_
    refine j_aload_n C dX1_addLeaf_37 rfl (hl.at 0 rfl) ?_
    refine j_dup C dX1_addLeaf_38 (cat_rf _ _) ?_
    obtain ⟨v13, g_v13, h⟩ := bd h
    refine j_gI C dX1_addLeaf_39 fl_RX1_36 (Or.inl rfl) g_v13 (fun hv13 => ?_)
    refine j_iconst C dX1_addLeaf_42 ?_
    obtain ⟨z14, g_z14, h⟩ := bd h
    refine j_iadd C dX1_addLeaf_43 g_z14 (fun hz14 => ?_)
    obtain ⟨S15, g_S15, h⟩ := bd h
    refine j_pI C dX1_addLeaf_44 fl_RX1_36 (Or.inl rfl) rfl hz14 g_S15 ?_
    exact j_vret C dX1_addLeaf_47 hr h
  · exact j_thrown C hT (run_S (As := [rf b o9, iv x3]) (rest := [iv v8, rf b o7]) C (m_J7_copyOf_59c91 hst hx3 hc) cs_RX1_39 rfl hl.1.1 (by simp [cat_iv, cat_rf]) (by decide) (by decide) dX1_addLeaf_33) hne
noncomputable def f_X1_firstOf_4 (n : Nat) (a0 : Option Nat) (x2 : Int) (x3 : Int) (S : AS) : Option RS := match n with
  | 0 => none
  | n + 1 =>
    if 3000 ≤ x3 then
      rI x2 S
    else
      (gR S a0 2 0).bind fun o1 =>
      (aI S o1 8 x2).bind fun v2 =>
      if v2 = x2 then
        rI x2 S
      else
        (gR S a0 2 0).bind fun o3 =>
        (gR S a0 2 0).bind fun o4 =>
        (gR S a0 2 0).bind fun o5 =>
        (aI S o5 8 x2).bind fun v6 =>
        (aI S o4 8 v6).bind fun v7 =>
        (sI S o3 8 x2 v7).bind fun S8 =>
        (gR S8 a0 2 0).bind fun o9 =>
        (aI S8 o9 8 x2).bind fun v10 =>
        (chk (x3 + 1)).bind fun z11 =>
        f_X1_firstOf_4 n a0 v10 z11 S8
set_option maxHeartbeats 4000000 in
set_option maxRecDepth 100000 in
theorem w_X1_firstOf_4 {p : Program} {l : Launch} {e : Env} {R : Room} {s : State} {m : MethodId} {args : Array Value} {below : List Frame} {meth : Method} {c : Code} {b : Nat} {D : va_G} {dA : Nat → ClassId} {S0 : AS} {q : RS} (C : hp_C p l e R s m args below meth c b D dA S0 RX1 cX1_firstOf 4 6 16) (hT : ∀ x ∈ c.exceptionTable.toList, False) (hnm : meth.name = "firstOf") (hr : meth.sig.returnType = (some .int)) : ∀ (n : Nat), ∀ (a0 : Option Nat) (x2 : Int) (x3 : Int) (S : AS), inR x2 → inR x3 → f_X1_firstOf_4 n a0 x2 x3 S = some q → ∀ ls : Array Slot, hp_L ls 4 [(0, rf b a0), (2, iv x2), (3, iv x3)] → hp_J p l e R s m args below meth c b D dA S0 (hp_Q below b D dA S0 1 q args s) S 4 ls [] := by
  have hst : l.stackTraces = false := C.2.2.2.2.2.2.2.2.2.2.1
  intro n
  induction n with
  | zero =>
    intro a0 x2 x3 S hx2 hx3 h
    cases h
  | succ n ih =>
    intro a0 x2 x3 S hx2 hx3 h ls hl
    unfold f_X1_firstOf_4 at h
    refine j_iload_n C dX1_firstOf_4 rfl (hl.at 2 rfl) ?_
    refine j_sipush (x := 3000) C dX1_firstOf_5 (by decide) ?_
    refine j_icmp_ge (tgt := 51) C dX1_firstOf_8 (by decide) hx3 (by decide) (fun b1 => ?_) (fun b1 => ?_)
    · rw [if_pos b1] at h
      refine j_iload_n C dX1_firstOf_51 rfl (hl.at 1 rfl) ?_
      exact j_iret C dX1_firstOf_52 hr hx2 h
    · rw [if_neg b1] at h
      refine j_aload_n C dX1_firstOf_11 rfl (hl.at 0 rfl) ?_
      obtain ⟨o1, g_o1, h⟩ := bd h
      refine j_gR C dX1_firstOf_12 fl_RX1_9 rfl g_o1 ?_
      refine j_iload_n C dX1_firstOf_15 rfl (hl.at 1 rfl) ?_
      obtain ⟨v2, g_v2, h⟩ := bd h
      refine j_iald C dX1_firstOf_16 hx2 g_v2 (fun hv2 => ?_)
      refine j_iload_n C dX1_firstOf_17 rfl (hl.at 1 rfl) ?_
      refine j_icmp_eq (tgt := 51) C dX1_firstOf_18 (by decide) hv2 hx2 (fun b1 => ?_) (fun b1 => ?_)
      · rw [if_pos b1] at h
        refine j_iload_n C dX1_firstOf_51 rfl (hl.at 1 rfl) ?_
        exact j_iret C dX1_firstOf_52 hr hx2 h
      · rw [if_neg b1] at h
        refine j_aload_n C dX1_firstOf_21 rfl (hl.at 0 rfl) ?_
        obtain ⟨o3, g_o3, h⟩ := bd h
        refine j_gR C dX1_firstOf_22 fl_RX1_9 rfl g_o3 ?_
        refine j_iload_n C dX1_firstOf_25 rfl (hl.at 1 rfl) ?_
        refine j_aload_n C dX1_firstOf_26 rfl (hl.at 0 rfl) ?_
        obtain ⟨o4, g_o4, h⟩ := bd h
        refine j_gR C dX1_firstOf_27 fl_RX1_9 rfl g_o4 ?_
        refine j_aload_n C dX1_firstOf_30 rfl (hl.at 0 rfl) ?_
        obtain ⟨o5, g_o5, h⟩ := bd h
        refine j_gR C dX1_firstOf_31 fl_RX1_9 rfl g_o5 ?_
        refine j_iload_n C dX1_firstOf_34 rfl (hl.at 1 rfl) ?_
        obtain ⟨v6, g_v6, h⟩ := bd h
        refine j_iald C dX1_firstOf_35 hx2 g_v6 (fun hv6 => ?_)
        obtain ⟨v7, g_v7, h⟩ := bd h
        refine j_iald C dX1_firstOf_36 hv6 g_v7 (fun hv7 => ?_)
        obtain ⟨S8, g_S8, h⟩ := bd h
        refine j_iast C dX1_firstOf_37 hx2 hv7 g_S8 ?_
        refine j_aload_n C dX1_firstOf_38 rfl (hl.at 0 rfl) ?_
        obtain ⟨o9, g_o9, h⟩ := bd h
        refine j_gR C dX1_firstOf_39 fl_RX1_9 rfl g_o9 ?_
        refine j_iload_n C dX1_firstOf_42 rfl (hl.at 1 rfl) ?_
        obtain ⟨v10, g_v10, h⟩ := bd h
        refine j_iald C dX1_firstOf_43 hx2 g_v10 (fun hv10 => ?_)
        refine k_istore_n (lv' := [(2, iv v10), (0, rf b a0), (3, iv x3)]) C dX1_firstOf_44 rfl hl (by decide) rfl (fun ls hl => ?_)
        obtain ⟨z11, g_z11, h⟩ := bd h
        refine k_iinc (k9 := 2) (lv' := [(3, iv z11), (2, iv v10), (0, rf b a0)]) C dX1_firstOf_45 hl rfl g_z11 (by decide) rfl (fun hz11 ls hl => ?_)
        refine j_goto (tgt := 4) C dX1_firstOf_48 (by decide) ?_
        exact ih _ _ _ _ hv10 hz11 h ls (hl.sub [2, 1, 0] rfl)
noncomputable def f_X1_firstOf (a0 : Option Nat) (x1 : Int) (S : AS) : Option RS :=
  f_X1_firstOf_4 FU a0 x1 0 S
set_option maxHeartbeats 4000000 in
set_option maxRecDepth 100000 in
theorem m_X1_firstOf {l : Launch} {b : Nat} {D : va_G} {dA : Nat → ClassId} (hst : l.stackTraces = false) {a0 : Option Nat} {x1 : Int} {S : AS} {q : RS} (hx1 : inR x1) (h : f_X1_firstOf a0 x1 S = some q) : hp_M l b D dA yX1_firstOf cX1_firstOf 4 (some .int) 6 16 [rf b a0, iv x1] S 1 q := by
  have hcat : ∀ v ∈ ([rf b a0, iv x1] : List Value), v.category = 1 := (by intro v hv; simp only [List.mem_cons, List.not_mem_nil, or_false] at hv; rcases hv with rfl | rfl <;> first | exact cat_iv _ | exact cat_rf _ _)
  refine hp_ofJ (own := RX1) hst (by decide +kernel) rfl hcat (Nat.le_of_ble_eq_true rfl) ?_
  intro p e R s m args below meth c C hT hnm hr ls hl9
  have hl : hp_L ls 4 [(0, rf b a0), (1, iv x1)] := hp_L.of hl9 hcat
  unfold f_X1_firstOf at h
  refine j_iload_n C dX1_firstOf_0 rfl (hl.at 1 rfl) ?_
  refine k_istore_n (lv' := [(2, iv x1), (0, rf b a0), (1, iv x1)]) C dX1_firstOf_1 rfl hl (by decide) rfl (fun ls hl => ?_)
  refine j_iconst C dX1_firstOf_2 ?_
  refine k_istore_n (lv' := [(3, iv 0), (2, iv x1), (0, rf b a0), (1, iv x1)]) C dX1_firstOf_3 rfl hl (by decide) rfl (fun ls hl => ?_)
  exact w_X1_firstOf_4 C hT hnm hr FU _ _ _ _ hx1 (by decide) h ls (hl.sub [2, 1, 0] rfl)
noncomputable def f_X1_unite (a0 : Option Nat) (x1 : Int) (x2 : Int) (S : AS) : Option RS :=
  gd (isK S a0 2) <|
  cI (f_X1_firstOf a0 x1 S) fun v2 S1 =>
  gd (isK S1 a0 2) <|
  cI (f_X1_firstOf a0 x2 S1) fun v5 S4 =>
  (gR S4 a0 2 0).bind fun o7 =>
  (some (if v2 < v5 then v5 else v2)).bind fun z8 =>
  (some (if v5 < v2 then v5 else v2)).bind fun z9 =>
  (sI S4 o7 8 z8 z9).bind fun S10 =>
  rV S10
set_option maxHeartbeats 4000000 in
set_option maxRecDepth 100000 in
theorem m_X1_unite {l : Launch} {b : Nat} {D : va_G} {dA : Nat → ClassId} (hst : l.stackTraces = false) {a0 : Option Nat} {x1 : Int} {x2 : Int} {S : AS} {q : RS} (hx1 : inR x1) (hx2 : inR x2) (h : f_X1_unite a0 x1 x2 S = some q) : hp_M l b D dA yX1_unite cX1_unite 5 none 7 39 [rf b a0, iv x1, iv x2] S 0 q := by
  have hcat : ∀ v ∈ ([rf b a0, iv x1, iv x2] : List Value), v.category = 1 := (by intro v hv; simp only [List.mem_cons, List.not_mem_nil, or_false] at hv; rcases hv with rfl | rfl | rfl <;> first | exact cat_iv _ | exact cat_rf _ _)
  refine hp_ofJ (own := RX1) hst (by decide +kernel) rfl hcat (Nat.le_of_ble_eq_true rfl) ?_
  intro p e R s m args below meth c C hT hnm hr ls hl9
  have hl : hp_L ls 5 [(0, rf b a0), (1, iv x1), (2, iv x2)] := hp_L.of hl9 hcat
  unfold f_X1_unite at h
  refine j_aload_n C dX1_unite_0 rfl (hl.at 0 rfl) ?_
  refine j_iload_n C dX1_unite_1 rfl (hl.at 1 rfl) ?_
  obtain ⟨c3, h⟩ := gd_some h
  rcases cI_some h with ⟨S1, v2, wv2, hc, h⟩ | ⟨hc, hne⟩
  · refine j_callI C (run_W (As := [iv x1]) (rest := []) C (m_X1_firstOf hst hx1 hc) cv_RX1_65 (by decide) rfl c3 rfl hl (by decide) (by decide) (by decide) dX1_unite_2) (fun hv2 => ?_)
    refine k_istore_n (lv' := [(3, iv v2), (0, rf b a0), (1, iv x1), (2, iv x2)]) C dX1_unite_5 rfl hl (by decide) rfl (fun ls hl => ?_)
    refine j_aload_n C dX1_unite_6 rfl (hl.at 1 rfl) ?_
    refine j_iload_n C dX1_unite_7 rfl (hl.at 3 rfl) ?_
    obtain ⟨c6, h⟩ := gd_some h
    rcases cI_some h with ⟨S4, v5, wv5, hc, h⟩ | ⟨hc, hne⟩
    · refine j_callI C (run_W (As := [iv x2]) (rest := []) C (m_X1_firstOf hst hx2 hc) cv_RX1_65 (by decide) rfl c6 rfl hl (by decide) (by decide) (by decide) dX1_unite_8) (fun hv5 => ?_)
      refine k_istore (lv' := [(4, iv v5), (3, iv v2), (0, rf b a0), (1, iv x1), (2, iv x2)]) C dX1_unite_11 hl (by decide) rfl (fun ls hl => ?_)
      refine j_aload_n C dX1_unite_13 rfl (hl.at 2 rfl) ?_
      obtain ⟨o7, g_o7, h⟩ := bd h
      refine j_gR C dX1_unite_14 fl_RX1_9 rfl g_o7 ?_
      refine j_iload_n C dX1_unite_17 rfl (hl.at 1 rfl) ?_
      refine j_iload C dX1_unite_18 (hl.at 0 rfl) ?_
      rw [Option.bind_some] at h
      have hz8 : inR (if v2 < v5 then v5 else v2) := by split <;> first | assumption | decide
      refine j_max C dX1_unite_20 hv2 hv5 mt_RX1_69 mt_max_s mt_i mt_max_c hl.1.1 (by decide) (by first | decide | (simp [cat_iv, cat_rf]; omega) | simp [cat_iv, cat_rf]) ?_
      generalize (if v2 < v5 then v5 else v2) = z8 at h hz8 ⊢
      refine j_iload_n C dX1_unite_23 rfl (hl.at 1 rfl) ?_
      refine j_iload C dX1_unite_24 (hl.at 0 rfl) ?_
      rw [Option.bind_some] at h
      have hz9 : inR (if v5 < v2 then v5 else v2) := by split <;> first | assumption | decide
      refine j_min C dX1_unite_26 hv2 hv5 mt_RX1_75 mt_min_s mt_i mt_min_c hl.1.1 (by decide) (by first | decide | (simp [cat_iv, cat_rf]; omega) | simp [cat_iv, cat_rf]) ?_
      generalize (if v5 < v2 then v5 else v2) = z9 at h hz9 ⊢
      obtain ⟨S10, g_S10, h⟩ := bd h
      refine j_iast C dX1_unite_29 hz8 hz9 g_S10 ?_
      exact j_vret C dX1_unite_30 hr h
    · exact j_thrown C hT (run_W (As := [iv x2]) (rest := []) C (m_X1_firstOf hst hx2 hc) cv_RX1_65 (by decide) rfl c6 rfl hl (by decide) (by decide) (by decide) dX1_unite_8) hne
  · exact j_thrown C hT (run_W (As := [iv x1]) (rest := []) C (m_X1_firstOf hst hx1 hc) cv_RX1_65 (by decide) rfl c3 rfl hl (by decide) (by decide) (by decide) dX1_unite_2) hne
noncomputable def f_X1_uniteOver_15 (n : Nat) (a0 : Option Nat) (a1 : Option Nat) (x2 : Int) (x3 : Int) (a4 : Option Nat) (x5 : Int) (S : AS) : Option RS := match n with
  | 0 => none
  | n + 1 =>
    (gR S a1 4 2).bind fun o1 =>
    (ln S o1 8).bind fun v2 =>
    if v2 ≤ x5 then
      rV S
    else
      (gR S a1 4 2).bind fun o3 =>
      (aI S o3 8 x5).bind fun v4 =>
      if v4 = (-1) then
        (chk (x5 + 1)).bind fun z5 =>
        f_X1_uniteOver_15 n a0 a1 x2 x3 a4 z5 S
      else
        (aI S a4 8 x5).bind fun v6 =>
        if v6 = (-1) then
          (chk (x5 + 1)).bind fun z7 =>
          f_X1_uniteOver_15 n a0 a1 x2 x3 a4 z7 S
        else
          (gR S a1 4 2).bind fun o8 =>
          (aI S o8 8 x5).bind fun v9 =>
          (chk (x2 + v9)).bind fun z10 =>
          (aI S a4 8 x5).bind fun v11 =>
          (chk (x3 + v11)).bind fun z12 =>
          gd (isK S a0 2) <|
          cV (f_X1_unite a0 z10 z12 S) fun S13 =>
          (chk (x5 + 1)).bind fun z16 =>
          f_X1_uniteOver_15 n a0 a1 x2 x3 a4 z16 S13
set_option maxHeartbeats 4000000 in
set_option maxRecDepth 100000 in
theorem w_X1_uniteOver_15 {p : Program} {l : Launch} {e : Env} {R : Room} {s : State} {m : MethodId} {args : Array Value} {below : List Frame} {meth : Method} {c : Code} {b : Nat} {D : va_G} {dA : Nat → ClassId} {S0 : AS} {q : RS} (C : hp_C p l e R s m args below meth c b D dA S0 RX1 cX1_uniteOver 6 8 63) (hT : ∀ x ∈ c.exceptionTable.toList, False) (hnm : meth.name = "uniteOver") (hr : meth.sig.returnType = none) : ∀ (n : Nat), ∀ (a0 : Option Nat) (a1 : Option Nat) (x2 : Int) (x3 : Int) (a4 : Option Nat) (x5 : Int) (S : AS), inR x2 → inR x3 → inR x5 → f_X1_uniteOver_15 n a0 a1 x2 x3 a4 x5 S = some q → ∀ ls : Array Slot, hp_L ls 6 [(0, rf b a0), (1, rf b a1), (2, iv x2), (3, iv x3), (4, rf b a4), (5, iv x5)] → hp_J p l e R s m args below meth c b D dA S0 (hp_Q below b D dA S0 0 q args s) S 15 ls [] := by
  have hst : l.stackTraces = false := C.2.2.2.2.2.2.2.2.2.2.1
  intro n
  induction n with
  | zero =>
    intro a0 a1 x2 x3 a4 x5 S hx2 hx3 hx5 h
    cases h
  | succ n ih =>
    intro a0 a1 x2 x3 a4 x5 S hx2 hx3 hx5 h ls hl
    unfold f_X1_uniteOver_15 at h
    refine j_iload C dX1_uniteOver_15 (hl.at 5 rfl) ?_
    refine j_aload_n C dX1_uniteOver_17 rfl (hl.at 1 rfl) ?_
    obtain ⟨o1, g_o1, h⟩ := bd h
    refine j_gR C dX1_uniteOver_18 fl_RX1_60 rfl g_o1 ?_
    obtain ⟨v2, g_v2, h⟩ := bd h
    refine j_alen C dX1_uniteOver_21 (by decide) g_v2 (fun hv2 => ?_)
    refine j_icmp_ge (tgt := 71) C dX1_uniteOver_22 (by decide) hx5 hv2 (fun b1 => ?_) (fun b1 => ?_)
    · rw [if_pos b1] at h
      exact j_vret C dX1_uniteOver_71 hr h
    · rw [if_neg b1] at h
      refine j_aload_n C dX1_uniteOver_25 rfl (hl.at 1 rfl) ?_
      obtain ⟨o3, g_o3, h⟩ := bd h
      refine j_gR C dX1_uniteOver_26 fl_RX1_60 rfl g_o3 ?_
      refine j_iload C dX1_uniteOver_29 (hl.at 5 rfl) ?_
      obtain ⟨v4, g_v4, h⟩ := bd h
      refine j_iald C dX1_uniteOver_31 hx5 g_v4 (fun hv4 => ?_)
      refine j_iconst C dX1_uniteOver_32 ?_
      refine j_icmp_eq (tgt := 65) C dX1_uniteOver_33 (by decide) hv4 (by decide) (fun b1 => ?_) (fun b1 => ?_)
      · rw [if_pos b1] at h
        obtain ⟨z5, g_z5, h⟩ := bd h
        refine k_iinc (k9 := 5) (lv' := [(5, iv z5), (0, rf b a0), (1, rf b a1), (2, iv x2), (3, iv x3), (4, rf b a4)]) C dX1_uniteOver_65 hl rfl g_z5 (by decide) rfl (fun hz5 ls hl => ?_)
        refine j_goto (tgt := 15) C dX1_uniteOver_68 (by decide) ?_
        exact ih _ _ _ _ _ _ _ hx2 hx3 hz5 h ls (hl.sub [1, 2, 3, 4, 5, 0] rfl)
      · rw [if_neg b1] at h
        refine j_aload C dX1_uniteOver_36 (hl.at 4 rfl) ?_
        refine j_iload C dX1_uniteOver_38 (hl.at 5 rfl) ?_
        obtain ⟨v6, g_v6, h⟩ := bd h
        refine j_iald C dX1_uniteOver_40 hx5 g_v6 (fun hv6 => ?_)
        refine j_iconst C dX1_uniteOver_41 ?_
        refine j_icmp_eq (tgt := 65) C dX1_uniteOver_42 (by decide) hv6 (by decide) (fun b1 => ?_) (fun b1 => ?_)
        · rw [if_pos b1] at h
          obtain ⟨z7, g_z7, h⟩ := bd h
          refine k_iinc (k9 := 5) (lv' := [(5, iv z7), (0, rf b a0), (1, rf b a1), (2, iv x2), (3, iv x3), (4, rf b a4)]) C dX1_uniteOver_65 hl rfl g_z7 (by decide) rfl (fun hz7 ls hl => ?_)
          refine j_goto (tgt := 15) C dX1_uniteOver_68 (by decide) ?_
          exact ih _ _ _ _ _ _ _ hx2 hx3 hz7 h ls (hl.sub [1, 2, 3, 4, 5, 0] rfl)
        · rw [if_neg b1] at h
          refine j_aload_n C dX1_uniteOver_45 rfl (hl.at 0 rfl) ?_
          refine j_iload_n C dX1_uniteOver_46 rfl (hl.at 2 rfl) ?_
          refine j_aload_n C dX1_uniteOver_47 rfl (hl.at 1 rfl) ?_
          obtain ⟨o8, g_o8, h⟩ := bd h
          refine j_gR C dX1_uniteOver_48 fl_RX1_60 rfl g_o8 ?_
          refine j_iload C dX1_uniteOver_51 (hl.at 5 rfl) ?_
          obtain ⟨v9, g_v9, h⟩ := bd h
          refine j_iald C dX1_uniteOver_53 hx5 g_v9 (fun hv9 => ?_)
          obtain ⟨z10, g_z10, h⟩ := bd h
          refine j_iadd C dX1_uniteOver_54 g_z10 (fun hz10 => ?_)
          refine j_iload_n C dX1_uniteOver_55 rfl (hl.at 3 rfl) ?_
          refine j_aload C dX1_uniteOver_56 (hl.at 4 rfl) ?_
          refine j_iload C dX1_uniteOver_58 (hl.at 5 rfl) ?_
          obtain ⟨v11, g_v11, h⟩ := bd h
          refine j_iald C dX1_uniteOver_60 hx5 g_v11 (fun hv11 => ?_)
          obtain ⟨z12, g_z12, h⟩ := bd h
          refine j_iadd C dX1_uniteOver_61 g_z12 (fun hz12 => ?_)
          obtain ⟨c15, h⟩ := gd_some h
          rcases cV_some h with ⟨S13, y14, hc, h⟩ | ⟨hc, hne⟩
          · refine j_callV C (run_W (As := [iv z10, iv z12]) (rest := []) C (m_X1_unite hst hz10 hz12 hc) cv_RX1_61 (by decide) rfl c15 rfl hl (by decide) (by decide) (by decide) dX1_uniteOver_62) ?_
            obtain ⟨z16, g_z16, h⟩ := bd h
            refine k_iinc (k9 := 5) (lv' := [(5, iv z16), (0, rf b a0), (1, rf b a1), (2, iv x2), (3, iv x3), (4, rf b a4)]) C dX1_uniteOver_65 hl rfl g_z16 (by decide) rfl (fun hz16 ls hl => ?_)
            refine j_goto (tgt := 15) C dX1_uniteOver_68 (by decide) ?_
            exact ih _ _ _ _ _ _ _ hx2 hx3 hz16 h ls (hl.sub [1, 2, 3, 4, 5, 0] rfl)
          · exact j_thrown C hT (run_W (As := [iv z10, iv z12]) (rest := []) C (m_X1_unite hst hz10 hz12 hc) cv_RX1_61 (by decide) rfl c15 rfl hl (by decide) (by decide) (by decide) dX1_uniteOver_62) hne
noncomputable def f_X1_uniteOver (a0 : Option Nat) (a1 : Option Nat) (x2 : Int) (x3 : Int) (S : AS) : Option RS :=
  (gR S a1 4 0).bind fun o1 =>
  (gR S o1 5 6).bind fun o2 =>
  (gR S o2 1 0).bind fun o3 =>
  f_X1_uniteOver_15 FU a0 a1 x2 x3 o3 0 S
set_option maxHeartbeats 4000000 in
set_option maxRecDepth 100000 in
theorem m_X1_uniteOver {l : Launch} {b : Nat} {D : va_G} {dA : Nat → ClassId} (hst : l.stackTraces = false) {a0 : Option Nat} {a1 : Option Nat} {x2 : Int} {x3 : Int} {S : AS} {q : RS} (hx2 : inR x2) (hx3 : inR x3) (h : f_X1_uniteOver a0 a1 x2 x3 S = some q) : hp_M l b D dA yX1_uniteOver cX1_uniteOver 6 none 8 63 [rf b a0, rf b a1, iv x2, iv x3] S 0 q := by
  have hcat : ∀ v ∈ ([rf b a0, rf b a1, iv x2, iv x3] : List Value), v.category = 1 := (by intro v hv; simp only [List.mem_cons, List.not_mem_nil, or_false] at hv; rcases hv with rfl | rfl | rfl | rfl <;> first | exact cat_iv _ | exact cat_rf _ _)
  refine hp_ofJ (own := RX1) hst (by decide +kernel) rfl hcat (Nat.le_of_ble_eq_true rfl) ?_
  intro p e R s m args below meth c C hT hnm hr ls hl9
  have hl : hp_L ls 6 [(0, rf b a0), (1, rf b a1), (2, iv x2), (3, iv x3)] := hp_L.of hl9 hcat
  unfold f_X1_uniteOver at h
  refine j_aload_n C dX1_uniteOver_0 rfl (hl.at 1 rfl) ?_
  obtain ⟨o1, g_o1, h⟩ := bd h
  refine j_gR C dX1_uniteOver_1 fl_RX1_45 rfl g_o1 ?_
  obtain ⟨o2, g_o2, h⟩ := bd h
  refine j_gR C dX1_uniteOver_4 fl_RX1_49 rfl g_o2 ?_
  obtain ⟨o3, g_o3, h⟩ := bd h
  refine j_gR C dX1_uniteOver_7 fl_RX1_55 rfl g_o3 ?_
  refine k_astore (lv' := [(4, rf b o3), (0, rf b a0), (1, rf b a1), (2, iv x2), (3, iv x3)]) C dX1_uniteOver_10 hl (by decide) rfl (fun ls hl => ?_)
  refine j_iconst C dX1_uniteOver_12 ?_
  refine k_istore (lv' := [(5, iv 0), (4, rf b o3), (0, rf b a0), (1, rf b a1), (2, iv x2), (3, iv x3)]) C dX1_uniteOver_13 hl (by decide) rfl (fun ls hl => ?_)
  exact w_X1_uniteOver_15 C hT hnm hr FU _ _ _ _ _ _ _ hx2 hx3 (by decide) h ls (hl.sub [2, 3, 4, 5, 1, 0] rfl)
noncomputable def f_X1_numberNets_4 (n : Nat) (a0 : Option Nat) (x1 : Int) (x2 : Int) (S : AS) : Option RS := match n with
  | 0 => none
  | n + 1 =>
    (gI S a0 2 5).bind fun v1 =>
    if v1 ≤ x2 then
      rI x1 S
    else
      (gR S a0 2 0).bind fun o2 =>
      (aI S o2 8 x2).bind fun v3 =>
      if v3 = x2 then
        (gR S a0 2 0).bind fun o9 =>
        (sI S o9 8 x2 x1).bind fun S10 =>
        (chk (x1 + 1)).bind fun z11 =>
        (chk (x2 + 1)).bind fun z12 =>
        f_X1_numberNets_4 n a0 z11 z12 S10
      else
        (gR S a0 2 0).bind fun o4 =>
        (gR S a0 2 0).bind fun o5 =>
        (aI S o5 8 v3).bind fun v6 =>
        (sI S o4 8 x2 v6).bind fun S7 =>
        (chk (x2 + 1)).bind fun z8 =>
        f_X1_numberNets_4 n a0 x1 z8 S7
set_option maxHeartbeats 4000000 in
set_option maxRecDepth 100000 in
theorem w_X1_numberNets_4 {p : Program} {l : Launch} {e : Env} {R : Room} {s : State} {m : MethodId} {args : Array Value} {below : List Frame} {meth : Method} {c : Code} {b : Nat} {D : va_G} {dA : Nat → ClassId} {S0 : AS} {q : RS} (C : hp_C p l e R s m args below meth c b D dA S0 RX1 cX1_numberNets 4 6 16) (hT : ∀ x ∈ c.exceptionTable.toList, False) (hnm : meth.name = "numberNets") (hr : meth.sig.returnType = (some .int)) : ∀ (n : Nat), ∀ (a0 : Option Nat) (x1 : Int) (x2 : Int) (S : AS), inR x1 → inR x2 → f_X1_numberNets_4 n a0 x1 x2 S = some q → ∀ ls : Array Slot, hp_L ls 4 [(0, rf b a0), (1, iv x1), (2, iv x2)] → hp_J p l e R s m args below meth c b D dA S0 (hp_Q below b D dA S0 1 q args s) S 4 ls [] := by
  have hst : l.stackTraces = false := C.2.2.2.2.2.2.2.2.2.2.1
  intro n
  induction n with
  | zero =>
    intro a0 x1 x2 S hx1 hx2 h
    cases h
  | succ n ih =>
    intro a0 x1 x2 S hx1 hx2 h ls hl
    unfold f_X1_numberNets_4 at h
    refine j_iload_n C dX1_numberNets_4 rfl (hl.at 2 rfl) ?_
    refine j_aload_n C dX1_numberNets_5 rfl (hl.at 0 rfl) ?_
    obtain ⟨v1, g_v1, h⟩ := bd h
    refine j_gI C dX1_numberNets_6 fl_RX1_32 (Or.inl rfl) g_v1 (fun hv1 => ?_)
    refine j_icmp_ge (tgt := 55) C dX1_numberNets_9 (by decide) hx2 hv1 (fun b1 => ?_) (fun b1 => ?_)
    · rw [if_pos b1] at h
      refine j_iload_n C dX1_numberNets_55 rfl (hl.at 1 rfl) ?_
      exact j_iret C dX1_numberNets_56 hr hx1 h
    · rw [if_neg b1] at h
      refine j_aload_n C dX1_numberNets_12 rfl (hl.at 0 rfl) ?_
      obtain ⟨o2, g_o2, h⟩ := bd h
      refine j_gR C dX1_numberNets_13 fl_RX1_9 rfl g_o2 ?_
      refine j_iload_n C dX1_numberNets_16 rfl (hl.at 2 rfl) ?_
      obtain ⟨v3, g_v3, h⟩ := bd h
      refine j_iald C dX1_numberNets_17 hx2 g_v3 (fun hv3 => ?_)
      refine k_istore_n (lv' := [(3, iv v3), (0, rf b a0), (1, iv x1), (2, iv x2)]) C dX1_numberNets_18 rfl hl (by decide) rfl (fun ls hl => ?_)
      refine j_iload_n C dX1_numberNets_19 rfl (hl.at 0 rfl) ?_
      refine j_iload_n C dX1_numberNets_20 rfl (hl.at 3 rfl) ?_
      refine j_icmp_ne (tgt := 37) C dX1_numberNets_21 (by decide) hv3 hx2 (fun b1 => ?_) (fun b1 => ?_)
      · rw [if_neg b1] at h
        refine j_aload_n C dX1_numberNets_37 rfl (hl.at 1 rfl) ?_
        obtain ⟨o4, g_o4, h⟩ := bd h
        refine j_gR C dX1_numberNets_38 fl_RX1_9 rfl g_o4 ?_
        refine j_iload_n C dX1_numberNets_41 rfl (hl.at 3 rfl) ?_
        refine j_aload_n C dX1_numberNets_42 rfl (hl.at 1 rfl) ?_
        obtain ⟨o5, g_o5, h⟩ := bd h
        refine j_gR C dX1_numberNets_43 fl_RX1_9 rfl g_o5 ?_
        refine j_iload_n C dX1_numberNets_46 rfl (hl.at 0 rfl) ?_
        obtain ⟨v6, g_v6, h⟩ := bd h
        refine j_iald C dX1_numberNets_47 hv3 g_v6 (fun hv6 => ?_)
        obtain ⟨S7, g_S7, h⟩ := bd h
        refine j_iast C dX1_numberNets_48 hx2 hv6 g_S7 ?_
        obtain ⟨z8, g_z8, h⟩ := bd h
        refine k_iinc (k9 := 3) (lv' := [(2, iv z8), (3, iv v3), (0, rf b a0), (1, iv x1)]) C dX1_numberNets_49 hl rfl g_z8 (by decide) rfl (fun hz8 ls hl => ?_)
        refine j_goto (tgt := 4) C dX1_numberNets_52 (by decide) ?_
        exact ih _ _ _ _ hx1 hz8 h ls (hl.sub [2, 3, 0] rfl)
      · rw [if_pos (Decidable.byContradiction b1)] at h
        refine j_aload_n C dX1_numberNets_24 rfl (hl.at 1 rfl) ?_
        obtain ⟨o9, g_o9, h⟩ := bd h
        refine j_gR C dX1_numberNets_25 fl_RX1_9 rfl g_o9 ?_
        refine j_iload_n C dX1_numberNets_28 rfl (hl.at 3 rfl) ?_
        refine j_iload_n C dX1_numberNets_29 rfl (hl.at 2 rfl) ?_
        obtain ⟨S10, g_S10, h⟩ := bd h
        refine j_iast C dX1_numberNets_30 hx2 hx1 g_S10 ?_
        obtain ⟨z11, g_z11, h⟩ := bd h
        refine k_iinc (k9 := 2) (lv' := [(1, iv z11), (3, iv v3), (0, rf b a0), (2, iv x2)]) C dX1_numberNets_31 hl rfl g_z11 (by decide) rfl (fun hz11 ls hl => ?_)
        refine j_goto (tgt := 49) C dX1_numberNets_34 (by decide) ?_
        obtain ⟨z12, g_z12, h⟩ := bd h
        refine k_iinc (k9 := 3) (lv' := [(2, iv z12), (1, iv z11), (3, iv v3), (0, rf b a0)]) C dX1_numberNets_49 hl rfl g_z12 (by decide) rfl (fun hz12 ls hl => ?_)
        refine j_goto (tgt := 4) C dX1_numberNets_52 (by decide) ?_
        exact ih _ _ _ _ hz11 hz12 h ls (hl.sub [3, 1, 0] rfl)
noncomputable def f_X1_numberNets (a0 : Option Nat) (S : AS) : Option RS :=
  f_X1_numberNets_4 FU a0 0 0 S
set_option maxHeartbeats 4000000 in
set_option maxRecDepth 100000 in
theorem m_X1_numberNets {l : Launch} {b : Nat} {D : va_G} {dA : Nat → ClassId} (hst : l.stackTraces = false) {a0 : Option Nat} {S : AS} {q : RS} (h : f_X1_numberNets a0 S = some q) : hp_M l b D dA yX1_numberNets cX1_numberNets 4 (some .int) 6 16 [rf b a0] S 1 q := by
  have hcat : ∀ v ∈ ([rf b a0] : List Value), v.category = 1 := (by intro v hv; simp only [List.mem_cons, List.not_mem_nil, or_false] at hv; rcases hv with rfl <;> first | exact cat_iv _ | exact cat_rf _ _)
  refine hp_ofJ (own := RX1) hst (by decide +kernel) rfl hcat (Nat.le_of_ble_eq_true rfl) ?_
  intro p e R s m args below meth c C hT hnm hr ls hl9
  have hl : hp_L ls 4 [(0, rf b a0)] := hp_L.of hl9 hcat
  unfold f_X1_numberNets at h
  refine j_iconst C dX1_numberNets_0 ?_
  refine k_istore_n (lv' := [(1, iv 0), (0, rf b a0)]) C dX1_numberNets_1 rfl hl (by decide) rfl (fun ls hl => ?_)
  refine j_iconst C dX1_numberNets_2 ?_
  refine k_istore_n (lv' := [(2, iv 0), (1, iv 0), (0, rf b a0)]) C dX1_numberNets_3 rfl hl (by decide) rfl (fun ls hl => ?_)
  exact w_X1_numberNets_4 C hT hnm hr FU _ _ _ _ (by decide) (by decide) h ls (hl.sub [2, 1, 0] rfl)
noncomputable def f_X1_renumber_3 (n : Nat) (a0 : Option Nat) (a1 : Option Nat) (x2 : Int) (a3 : Option Nat) (x4 : Int) (S : AS) : Option RS := match n with
  | 0 => none
  | n + 1 =>
    (ln S a1 8).bind fun v1 =>
    if v1 ≤ x4 then
      rV S
    else
      (aI S a1 8 x4).bind fun v2 =>
      if v2 = (-1) then
        (sI S a3 8 x4 (-1)).bind fun S9 =>
        (chk (x4 + 1)).bind fun z10 =>
        f_X1_renumber_3 n a0 a1 x2 a3 z10 S9
      else
        (gR S a0 2 0).bind fun o3 =>
        (aI S a1 8 x4).bind fun v4 =>
        (chk (x2 + v4)).bind fun z5 =>
        (aI S o3 8 z5).bind fun v6 =>
        (sI S a3 8 x4 v6).bind fun S7 =>
        (chk (x4 + 1)).bind fun z8 =>
        f_X1_renumber_3 n a0 a1 x2 a3 z8 S7
set_option maxHeartbeats 4000000 in
set_option maxRecDepth 100000 in
theorem w_X1_renumber_3 {p : Program} {l : Launch} {e : Env} {R : Room} {s : State} {m : MethodId} {args : Array Value} {below : List Frame} {meth : Method} {c : Code} {b : Nat} {D : va_G} {dA : Nat → ClassId} {S0 : AS} {q : RS} (C : hp_C p l e R s m args below meth c b D dA S0 RX1 cX1_renumber 5 6 16) (hT : ∀ x ∈ c.exceptionTable.toList, False) (hnm : meth.name = "renumber") (hr : meth.sig.returnType = none) : ∀ (n : Nat), ∀ (a0 : Option Nat) (a1 : Option Nat) (x2 : Int) (a3 : Option Nat) (x4 : Int) (S : AS), inR x2 → inR x4 → f_X1_renumber_3 n a0 a1 x2 a3 x4 S = some q → ∀ ls : Array Slot, hp_L ls 5 [(0, rf b a0), (1, rf b a1), (2, iv x2), (3, rf b a3), (4, iv x4)] → hp_J p l e R s m args below meth c b D dA S0 (hp_Q below b D dA S0 0 q args s) S 3 ls [] := by
  have hst : l.stackTraces = false := C.2.2.2.2.2.2.2.2.2.2.1
  intro n
  induction n with
  | zero =>
    intro a0 a1 x2 a3 x4 S hx2 hx4 h
    cases h
  | succ n ih =>
    intro a0 a1 x2 a3 x4 S hx2 hx4 h ls hl
    unfold f_X1_renumber_3 at h
    refine j_iload C dX1_renumber_3 (hl.at 4 rfl) ?_
    refine j_aload_n C dX1_renumber_5 rfl (hl.at 1 rfl) ?_
    obtain ⟨v1, g_v1, h⟩ := bd h
    refine j_alen C dX1_renumber_6 (by decide) g_v1 (fun hv1 => ?_)
    refine j_icmp_ge (tgt := 43) C dX1_renumber_7 (by decide) hx4 hv1 (fun b1 => ?_) (fun b1 => ?_)
    · rw [if_pos b1] at h
      exact j_vret C dX1_renumber_43 hr h
    · rw [if_neg b1] at h
      refine j_aload_n C dX1_renumber_10 rfl (hl.at 3 rfl) ?_
      refine j_iload C dX1_renumber_11 (hl.at 4 rfl) ?_
      refine j_aload_n C dX1_renumber_13 rfl (hl.at 1 rfl) ?_
      refine j_iload C dX1_renumber_14 (hl.at 4 rfl) ?_
      obtain ⟨v2, g_v2, h⟩ := bd h
      refine j_iald C dX1_renumber_16 hx4 g_v2 (fun hv2 => ?_)
      refine j_iconst C dX1_renumber_17 ?_
      refine j_icmp_ne (tgt := 25) C dX1_renumber_18 (by decide) hv2 (by decide) (fun b1 => ?_) (fun b1 => ?_)
      · rw [if_neg b1] at h
        refine j_aload_n C dX1_renumber_25 rfl (hl.at 0 rfl) ?_
        obtain ⟨o3, g_o3, h⟩ := bd h
        refine j_gR C dX1_renumber_26 fl_RX1_9 rfl g_o3 ?_
        refine j_iload_n C dX1_renumber_29 rfl (hl.at 2 rfl) ?_
        refine j_aload_n C dX1_renumber_30 rfl (hl.at 1 rfl) ?_
        refine j_iload C dX1_renumber_31 (hl.at 4 rfl) ?_
        obtain ⟨v4, g_v4, h⟩ := bd h
        refine j_iald C dX1_renumber_33 hx4 g_v4 (fun hv4 => ?_)
        obtain ⟨z5, g_z5, h⟩ := bd h
        refine j_iadd C dX1_renumber_34 g_z5 (fun hz5 => ?_)
        obtain ⟨v6, g_v6, h⟩ := bd h
        refine j_iald C dX1_renumber_35 hz5 g_v6 (fun hv6 => ?_)
        obtain ⟨S7, g_S7, h⟩ := bd h
        refine j_iast C dX1_renumber_36 hx4 hv6 g_S7 ?_
        obtain ⟨z8, g_z8, h⟩ := bd h
        refine k_iinc (k9 := 4) (lv' := [(4, iv z8), (0, rf b a0), (1, rf b a1), (2, iv x2), (3, rf b a3)]) C dX1_renumber_37 hl rfl g_z8 (by decide) rfl (fun hz8 ls hl => ?_)
        refine j_goto (tgt := 3) C dX1_renumber_40 (by decide) ?_
        exact ih _ _ _ _ _ _ hx2 hz8 h ls (hl.sub [1, 2, 3, 4, 0] rfl)
      · rw [if_pos (Decidable.byContradiction b1)] at h
        refine j_iconst C dX1_renumber_21 ?_
        refine j_goto (tgt := 36) C dX1_renumber_22 (by decide) ?_
        obtain ⟨S9, g_S9, h⟩ := bd h
        refine j_iast C dX1_renumber_36 hx4 (by decide) g_S9 ?_
        obtain ⟨z10, g_z10, h⟩ := bd h
        refine k_iinc (k9 := 4) (lv' := [(4, iv z10), (0, rf b a0), (1, rf b a1), (2, iv x2), (3, rf b a3)]) C dX1_renumber_37 hl rfl g_z10 (by decide) rfl (fun hz10 ls hl => ?_)
        refine j_goto (tgt := 3) C dX1_renumber_40 (by decide) ?_
        exact ih _ _ _ _ _ _ hx2 hz10 h ls (hl.sub [1, 2, 3, 4, 0] rfl)
noncomputable def f_X1_renumber (a0 : Option Nat) (a1 : Option Nat) (x2 : Int) (a3 : Option Nat) (S : AS) : Option RS :=
  f_X1_renumber_3 FU a0 a1 x2 a3 0 S
set_option maxHeartbeats 4000000 in
set_option maxRecDepth 100000 in
theorem m_X1_renumber {l : Launch} {b : Nat} {D : va_G} {dA : Nat → ClassId} (hst : l.stackTraces = false) {a0 : Option Nat} {a1 : Option Nat} {x2 : Int} {a3 : Option Nat} {S : AS} {q : RS} (hx2 : inR x2) (h : f_X1_renumber a0 a1 x2 a3 S = some q) : hp_M l b D dA yX1_renumber cX1_renumber 5 none 6 16 [rf b a0, rf b a1, iv x2, rf b a3] S 0 q := by
  have hcat : ∀ v ∈ ([rf b a0, rf b a1, iv x2, rf b a3] : List Value), v.category = 1 := (by intro v hv; simp only [List.mem_cons, List.not_mem_nil, or_false] at hv; rcases hv with rfl | rfl | rfl | rfl <;> first | exact cat_iv _ | exact cat_rf _ _)
  refine hp_ofJ (own := RX1) hst (by decide +kernel) rfl hcat (Nat.le_of_ble_eq_true rfl) ?_
  intro p e R s m args below meth c C hT hnm hr ls hl9
  have hl : hp_L ls 5 [(0, rf b a0), (1, rf b a1), (2, iv x2), (3, rf b a3)] := hp_L.of hl9 hcat
  unfold f_X1_renumber at h
  refine j_iconst C dX1_renumber_0 ?_
  refine k_istore (lv' := [(4, iv 0), (0, rf b a0), (1, rf b a1), (2, iv x2), (3, rf b a3)]) C dX1_renumber_1 hl (by decide) rfl (fun ls hl => ?_)
  exact w_X1_renumber_3 C hT hnm hr FU _ _ _ _ _ _ hx2 (by decide) h ls (hl.sub [1, 2, 3, 4, 0] rfl)
noncomputable def f_X1_insideFor_32 (n : Nat) (a0 : Option Nat) (a3 : Option Nat) (x4 : Int) (S : AS) : Option RS := match n with
  | 0 => none
  | n + 1 =>
    (gI S a0 2 6).bind fun v1 =>
    if v1 ≤ x4 then
      rR a3 S
    else
      (gR S a0 2 2).bind fun o2 =>
      (aR S o2 10 x4).bind fun o3 =>
      (gR S o3 4 2).bind fun o4 =>
      (ln S o4 8).bind fun v5 =>
      (nA S 8 v5).bind fun S6 =>
      (gR S6 a0 2 2).bind fun o7 =>
      (aR S6 o7 10 x4).bind fun o8 =>
      (gR S6 o8 4 2).bind fun o9 =>
      (gR S6 a0 2 3).bind fun o10 =>
      (aI S6 o10 8 x4).bind fun v11 =>
      gd (isK S6 a0 2) <|
      cV (f_X1_renumber a0 o9 v11 (some (hn S)) S6) fun S12 =>
      (nO S12 4).bind fun S15 =>
      (gR S15 a0 2 2).bind fun o16 =>
      (aR S15 o16 10 x4).bind fun o17 =>
      (gR S15 o17 4 0).bind fun o18 =>
      (gR S15 a0 2 4).bind fun o19 =>
      (aR S15 o19 12 x4).bind fun o20 =>
      cN (f_X3_init (some (hn S12)) o18 o20 (some (hn S)) S15) fun S21 =>
      gd (isK S21 a3 1) <|
      cI (f_X0_addPlacement a3 (some (hn S12)) S21) fun v24 S23 =>
      (chk (x4 + 1)).bind fun z26 =>
      f_X1_insideFor_32 n a0 a3 z26 S23
set_option maxHeartbeats 4000000 in
set_option maxRecDepth 100000 in
theorem w_X1_insideFor_32 {p : Program} {l : Launch} {e : Env} {R : Room} {s : State} {m : MethodId} {args : Array Value} {below : List Frame} {meth : Method} {c : Code} {b : Nat} {D : va_G} {dA : Nat → ClassId} {S0 : AS} {q : RS} (C : hp_C p l e R s m args below meth c b D dA S0 RX1 cX1_insideFor 6 8 59) (hT : ∀ x ∈ c.exceptionTable.toList, False) (hnm : meth.name = "insideFor") (hr : meth.sig.returnType = (some (.object "DesignTrees$Inside"))) : ∀ (n : Nat), ∀ (a0 : Option Nat) (a3 : Option Nat) (x4 : Int) (S : AS), inR x4 → f_X1_insideFor_32 n a0 a3 x4 S = some q → ∀ ls : Array Slot, hp_L ls 6 [(0, rf b a0), (3, rf b a3), (4, iv x4)] → hp_J p l e R s m args below meth c b D dA S0 (hp_Q below b D dA S0 2 q args s) S 32 ls [] := by
  have hst : l.stackTraces = false := C.2.2.2.2.2.2.2.2.2.2.1
  intro n
  induction n with
  | zero =>
    intro a0 a3 x4 S hx4 h
    cases h
  | succ n ih =>
    intro a0 a3 x4 S hx4 h ls hl
    unfold f_X1_insideFor_32 at h
    refine j_iload C dX1_insideFor_32 (hl.at 2 rfl) ?_
    refine j_aload_n C dX1_insideFor_34 rfl (hl.at 0 rfl) ?_
    obtain ⟨v1, g_v1, h⟩ := bd h
    refine j_gI C dX1_insideFor_35 fl_RX1_36 (Or.inl rfl) g_v1 (fun hv1 => ?_)
    refine j_icmp_ge (tgt := 116) C dX1_insideFor_38 (by decide) hx4 hv1 (fun b1 => ?_) (fun b1 => ?_)
    · rw [if_pos b1] at h
      refine j_aload_n C dX1_insideFor_116 rfl (hl.at 1 rfl) ?_
      exact j_aret C dX1_insideFor_117 hr rfl h
    · rw [if_neg b1] at h
      refine j_aload_n C dX1_insideFor_41 rfl (hl.at 0 rfl) ?_
      obtain ⟨o2, g_o2, h⟩ := bd h
      refine j_gR C dX1_insideFor_42 fl_RX1_20 rfl g_o2 ?_
      refine j_iload C dX1_insideFor_45 (hl.at 2 rfl) ?_
      obtain ⟨o3, g_o3, h⟩ := bd h
      refine j_aald C dX1_insideFor_47 (by decide) hx4 g_o3 ?_
      obtain ⟨o4, g_o4, h⟩ := bd h
      refine j_gR C dX1_insideFor_48 fl_RX1_60 rfl g_o4 ?_
      obtain ⟨v5, g_v5, h⟩ := bd h
      refine j_alen C dX1_insideFor_51 (by decide) g_v5 (fun hv5 => ?_)
      obtain ⟨S6, g_S6, h⟩ := bd h
      refine j_newa C dX1_insideFor_52 (Or.inl ⟨rfl, rfl⟩) ac_8 hv5 g_S6 ?_
      refine k_astore (lv' := [(5, rf b (some (hn S))), (0, rf b a0), (3, rf b a3), (4, iv x4)]) C dX1_insideFor_54 hl (by decide) rfl (fun ls hl => ?_)
      refine j_aload_n C dX1_insideFor_56 rfl (hl.at 1 rfl) ?_
      refine j_aload_n C dX1_insideFor_57 rfl (hl.at 1 rfl) ?_
      obtain ⟨o7, g_o7, h⟩ := bd h
      refine j_gR C dX1_insideFor_58 fl_RX1_20 rfl g_o7 ?_
      refine j_iload C dX1_insideFor_61 (hl.at 3 rfl) ?_
      obtain ⟨o8, g_o8, h⟩ := bd h
      refine j_aald C dX1_insideFor_63 (by decide) hx4 g_o8 ?_
      obtain ⟨o9, g_o9, h⟩ := bd h
      refine j_gR C dX1_insideFor_64 fl_RX1_60 rfl g_o9 ?_
      refine j_aload_n C dX1_insideFor_67 rfl (hl.at 1 rfl) ?_
      obtain ⟨o10, g_o10, h⟩ := bd h
      refine j_gR C dX1_insideFor_68 fl_RX1_24 rfl g_o10 ?_
      refine j_iload C dX1_insideFor_71 (hl.at 3 rfl) ?_
      obtain ⟨v11, g_v11, h⟩ := bd h
      refine j_iald C dX1_insideFor_73 hx4 g_v11 (fun hv11 => ?_)
      refine j_aload C dX1_insideFor_74 (hl.at 0 rfl) ?_
      obtain ⟨c14, h⟩ := gd_some h
      rcases cV_some h with ⟨S12, y13, hc, h⟩ | ⟨hc, hne⟩
      · refine j_callV C (run_W (As := [rf b o9, iv v11, rf b (some (hn S))]) (rest := []) C (m_X1_renumber hst hv11 hc) cv_RX1_80 (by decide) rfl c14 rfl hl (by decide) (by decide) (by decide) dX1_insideFor_76) ?_
        refine j_aload_n C dX1_insideFor_79 rfl (hl.at 2 rfl) ?_
        obtain ⟨S15, g_S15, h⟩ := bd h
        refine j_new C dX1_insideFor_80 nw_RX1_18 g_S15 ?_
        refine j_dup C dX1_insideFor_83 (cat_rf _ _) ?_
        refine j_aload_n C dX1_insideFor_84 rfl (hl.at 1 rfl) ?_
        obtain ⟨o16, g_o16, h⟩ := bd h
        refine j_gR C dX1_insideFor_85 fl_RX1_20 rfl g_o16 ?_
        refine j_iload C dX1_insideFor_88 (hl.at 3 rfl) ?_
        obtain ⟨o17, g_o17, h⟩ := bd h
        refine j_aald C dX1_insideFor_90 (by decide) hx4 g_o17 ?_
        obtain ⟨o18, g_o18, h⟩ := bd h
        refine j_gR C dX1_insideFor_91 fl_RX1_45 rfl g_o18 ?_
        refine j_aload_n C dX1_insideFor_94 rfl (hl.at 1 rfl) ?_
        obtain ⟨o19, g_o19, h⟩ := bd h
        refine j_gR C dX1_insideFor_95 fl_RX1_28 rfl g_o19 ?_
        refine j_iload C dX1_insideFor_98 (hl.at 3 rfl) ?_
        obtain ⟨o20, g_o20, h⟩ := bd h
        refine j_aald C dX1_insideFor_100 (by decide) hx4 g_o20 ?_
        refine j_aload C dX1_insideFor_101 (hl.at 0 rfl) ?_
        obtain ⟨S21, y22, hc, h⟩ := cN_some h
        refine j_callV C (run_I (As := [rf b o18, rf b o20, rf b (some (hn S))]) (rest := [rf b (some (hn S12)), rf b a3]) C (m_X3_init hst hc) rfl ci_RX1_84 rfl hl.1.1 (by simp [cat_iv, cat_rf]) (by decide) (by decide) dX1_insideFor_103) ?_
        obtain ⟨c25, h⟩ := gd_some h
        rcases cI_some h with ⟨S23, v24, wv24, hc, h⟩ | ⟨hc, hne⟩
        · refine j_callI C (run_W (As := [rf b (some (hn S12))]) (rest := []) C (m_X0_addPlacement hst hc) cv_RX1_87 (by decide) rfl c25 rfl hl (by decide) (by decide) (by decide) dX1_insideFor_106) (fun hv24 => ?_)
          refine j_pop C dX1_insideFor_109 (cat_iv _) ?_
          obtain ⟨z26, g_z26, h⟩ := bd h
          refine k_iinc (k9 := 3) (lv' := [(4, iv z26), (5, rf b (some (hn S))), (0, rf b a0), (3, rf b a3)]) C dX1_insideFor_110 hl rfl g_z26 (by decide) rfl (fun hz26 ls hl => ?_)
          refine j_goto (tgt := 32) C dX1_insideFor_113 (by decide) ?_
          exact ih _ _ _ _ hz26 h ls (hl.sub [2, 3, 0] rfl)
        · exact j_thrown C hT (run_W (As := [rf b (some (hn S12))]) (rest := []) C (m_X0_addPlacement hst hc) cv_RX1_87 (by decide) rfl c25 rfl hl (by decide) (by decide) (by decide) dX1_insideFor_106) hne
      · exact j_thrown C hT (run_W (As := [rf b o9, iv v11, rf b (some (hn S))]) (rest := []) C (m_X1_renumber hst hv11 hc) cv_RX1_80 (by decide) rfl c14 rfl hl (by decide) (by decide) (by decide) dX1_insideFor_76) hne
noncomputable def f_X1_insideFor (a0 : Option Nat) (a1 : Option Nat) (x2 : Int) (S : AS) : Option RS :=
  (nO S 1).bind fun S1 =>
  cN (f_X0_init (some (hn S)) S1) fun S2 =>
  (pI S2 (some (hn S)) 1 3 x2).bind fun S4 =>
  (gR S4 a1 5 6).bind fun o5 =>
  (gR S4 o5 1 0).bind fun o6 =>
  (gR S4 (some (hn S)) 1 0).bind fun o7 =>
  gd (isK S4 a0 2) <|
  cV (f_X1_renumber a0 o6 0 o7 S4) fun S8 =>
  f_X1_insideFor_32 FU a0 (some (hn S)) 0 S8
set_option maxHeartbeats 4000000 in
set_option maxRecDepth 100000 in
theorem m_X1_insideFor {l : Launch} {b : Nat} {D : va_G} {dA : Nat → ClassId} (hst : l.stackTraces = false) {a0 : Option Nat} {a1 : Option Nat} {x2 : Int} {S : AS} {q : RS} (hx2 : inR x2) (h : f_X1_insideFor a0 a1 x2 S = some q) : hp_M l b D dA yX1_insideFor cX1_insideFor 6 (some (.object "DesignTrees$Inside")) 8 59 [rf b a0, rf b a1, iv x2] S 2 q := by
  have hcat : ∀ v ∈ ([rf b a0, rf b a1, iv x2] : List Value), v.category = 1 := (by intro v hv; simp only [List.mem_cons, List.not_mem_nil, or_false] at hv; rcases hv with rfl | rfl | rfl <;> first | exact cat_iv _ | exact cat_rf _ _)
  refine hp_ofJ (own := RX1) hst (by decide +kernel) rfl hcat (Nat.le_of_ble_eq_true rfl) ?_
  intro p e R s m args below meth c C hT hnm hr ls hl9
  have hl : hp_L ls 6 [(0, rf b a0), (1, rf b a1), (2, iv x2)] := hp_L.of hl9 hcat
  unfold f_X1_insideFor at h
  obtain ⟨S1, g_S1, h⟩ := bd h
  refine j_new C dX1_insideFor_0 nw_RX1_56 g_S1 ?_
  refine j_dup C dX1_insideFor_3 (cat_rf _ _) ?_
  obtain ⟨S2, y3, hc, h⟩ := cN_some h
  refine j_callV C (run_I (As := []) (rest := [rf b (some (hn S))]) C (m_X0_init hst hc) rfl ci_RX1_78 rfl hl.1.1 (by simp [cat_iv, cat_rf]) (by decide) (by decide) dX1_insideFor_4) ?_
  refine k_astore_n (lv' := [(3, rf b (some (hn S))), (0, rf b a0), (1, rf b a1), (2, iv x2)]) C dX1_insideFor_7 rfl hl (by decide) rfl (fun ls hl => ?_)
  refine j_aload_n C dX1_insideFor_8 rfl (hl.at 0 rfl) ?_
  refine j_iload_n C dX1_insideFor_9 rfl (hl.at 3 rfl) ?_
  obtain ⟨S4, g_S4, h⟩ := bd h
  refine j_pI C dX1_insideFor_10 fl_RX1_79 (Or.inl rfl) rfl hx2 g_S4 ?_
  refine j_aload_n C dX1_insideFor_13 rfl (hl.at 1 rfl) ?_
  refine j_aload_n C dX1_insideFor_14 rfl (hl.at 2 rfl) ?_
  obtain ⟨o5, g_o5, h⟩ := bd h
  refine j_gR C dX1_insideFor_15 fl_RX1_49 rfl g_o5 ?_
  obtain ⟨o6, g_o6, h⟩ := bd h
  refine j_gR C dX1_insideFor_18 fl_RX1_55 rfl g_o6 ?_
  refine j_iconst C dX1_insideFor_21 ?_
  refine j_aload_n C dX1_insideFor_22 rfl (hl.at 0 rfl) ?_
  obtain ⟨o7, g_o7, h⟩ := bd h
  refine j_gR C dX1_insideFor_23 fl_RX1_55 rfl g_o7 ?_
  obtain ⟨c10, h⟩ := gd_some h
  rcases cV_some h with ⟨S8, y9, hc, h⟩ | ⟨hc, hne⟩
  · refine j_callV C (run_W (As := [rf b o6, iv 0, rf b o7]) (rest := []) C (m_X1_renumber hst (by decide) hc) cv_RX1_80 (by decide) rfl c10 rfl hl (by decide) (by decide) (by decide) dX1_insideFor_26) ?_
    refine j_iconst C dX1_insideFor_29 ?_
    refine k_istore (lv' := [(4, iv 0), (3, rf b (some (hn S))), (0, rf b a0), (1, rf b a1), (2, iv x2)]) C dX1_insideFor_30 hl (by decide) rfl (fun ls hl => ?_)
    exact w_X1_insideFor_32 C hT hnm hr FU _ _ _ _ (by decide) h ls (hl.sub [2, 1, 0] rfl)
  · exact j_thrown C hT (run_W (As := [rf b o6, iv 0, rf b o7]) (rest := []) C (m_X1_renumber hst (by decide) hc) cv_RX1_80 (by decide) rfl c10 rfl hl (by decide) (by decide) (by decide) dX1_insideFor_26) hne
