noncomputable def f_X5_init (a0 : Option Nat) (S : AS) : Option RS :=
  gd a0.isSome <|
  (nA S 11 24).bind fun S2 =>
  (pR S2 a0 6 0 (some (hn S))).bind fun S3 =>
  (pI S3 a0 6 1 0).bind fun S4 =>
  (nO S4 3).bind fun S5 =>
  cN (f_X2_init (some (hn S4)) S5) fun S6 =>
  (pR S6 a0 6 2 (some (hn S4))).bind fun S8 =>
  (nO S8 2).bind fun S9 =>
  cN (f_X1_init (some (hn S8)) S9) fun S10 =>
  (pR S10 a0 6 3 (some (hn S8))).bind fun S12 =>
  (nA S12 8 24).bind fun S13 =>
  (pR S13 a0 6 4 (some (hn S12))).bind fun S14 =>
  (nA S14 8 128).bind fun S15 =>
  (pR S15 a0 6 5 (some (hn S14))).bind fun S16 =>
  (nA S16 8 128).bind fun S17 =>
  (pR S17 a0 6 6 (some (hn S16))).bind fun S18 =>
  rV S18
set_option maxHeartbeats 4000000 in
set_option maxRecDepth 100000 in
theorem m_X5_init {l : Launch} {b : Nat} {D : va_G} {dA : Nat → ClassId} (hst : l.stackTraces = false) {a0 : Option Nat} {S : AS} {q : RS} (h : f_X5_init a0 S = some q) : hp_M l b D dA yX5_init cX5_init 1 none 7 40 [rf b a0] S 0 q := by
  have hcat : ∀ v ∈ ([rf b a0] : List Value), v.category = 1 := (by intro v hv; simp only [List.mem_cons, List.not_mem_nil, or_false] at hv; rcases hv with rfl <;> first | exact cat_iv _ | exact cat_rf _ _)
  refine hp_ofJ (own := RX5) hst (by decide +kernel) rfl hcat (Nat.le_of_ble_eq_true rfl) ?_
  intro p e R s m args below meth c C hT hnm hr ls hl9
  have hl : hp_L ls 1 [(0, rf b a0)] := hp_L.of hl9 hcat
  unfold f_X5_init at h
  refine j_aload_n C dX5_init_0 rfl (hl.at 0 rfl) ?_
  obtain ⟨c1, h⟩ := gd_some h
  refine j_objInit C dX5_init_1 c1 oi_RX5_3 oi_1 oi_2 hl.1.1 (by decide) (by decide) ?_
  refine j_aload_n C dX5_init_4 rfl (hl.at 0 rfl) ?_
  refine j_bipush (x := 24) C dX5_init_5 (by decide) ?_
  obtain ⟨S2, g_S2, h⟩ := bd h
  refine j_anew (ci := 4) C dX5_init_7 (by decide) cl_RX5_9 (by decide) g_S2 ?_
  obtain ⟨S3, g_S3, h⟩ := bd h
  refine j_pR C dX5_init_10 fl_RX5_11 (Or.inr ⟨rfl, hnm, rfl⟩) rfl g_S3 ?_
  refine j_aload_n C dX5_init_13 rfl (hl.at 0 rfl) ?_
  refine j_iconst C dX5_init_14 ?_
  obtain ⟨S4, g_S4, h⟩ := bd h
  refine j_pI C dX5_init_15 fl_RX5_15 (Or.inl rfl) rfl (by decide) g_S4 ?_
  refine j_aload_n C dX5_init_18 rfl (hl.at 0 rfl) ?_
  obtain ⟨S5, g_S5, h⟩ := bd h
  refine j_new C dX5_init_19 nw_RX5_19 g_S5 ?_
  refine j_dup C dX5_init_22 (cat_rf _ _) ?_
  obtain ⟨S6, y7, hc, h⟩ := cN_some h
  refine j_callV C (run_IN (As := []) (rest := [rf b (some (hn S4)), rf b a0]) C (m_X2_init hst hc) rfl cn_RX5_21 im_X2_init rfl hl.1.1 (by simp [cat_iv, cat_rf]) (by decide) (by decide) dX5_init_23) ?_
  obtain ⟨S8, g_S8, h⟩ := bd h
  refine j_pR C dX5_init_26 fl_RX5_22 (Or.inr ⟨rfl, hnm, rfl⟩) rfl g_S8 ?_
  refine j_aload_n C dX5_init_29 rfl (hl.at 0 rfl) ?_
  obtain ⟨S9, g_S9, h⟩ := bd h
  refine j_new C dX5_init_30 nw_RX5_26 g_S9 ?_
  refine j_dup C dX5_init_33 (cat_rf _ _) ?_
  obtain ⟨S10, y11, hc, h⟩ := cN_some h
  refine j_callV C (run_IN (As := []) (rest := [rf b (some (hn S8)), rf b a0]) C (m_X1_init hst hc) rfl cn_RX5_28 im_X1_init rfl hl.1.1 (by simp [cat_iv, cat_rf]) (by decide) (by decide) dX5_init_34) ?_
  obtain ⟨S12, g_S12, h⟩ := bd h
  refine j_pR C dX5_init_37 fl_RX5_29 (Or.inr ⟨rfl, hnm, rfl⟩) rfl g_S12 ?_
  refine j_aload_n C dX5_init_40 rfl (hl.at 0 rfl) ?_
  refine j_bipush (x := 24) C dX5_init_41 (by decide) ?_
  obtain ⟨S13, g_S13, h⟩ := bd h
  refine j_newa C dX5_init_43 (Or.inl ⟨rfl, rfl⟩) ac_8 (by decide) g_S13 ?_
  obtain ⟨S14, g_S14, h⟩ := bd h
  refine j_pR C dX5_init_45 fl_RX5_33 (Or.inr ⟨rfl, hnm, rfl⟩) rfl g_S14 ?_
  refine j_aload_n C dX5_init_48 rfl (hl.at 0 rfl) ?_
  refine j_sipush (x := 128) C dX5_init_49 (by decide) ?_
  obtain ⟨S15, g_S15, h⟩ := bd h
  refine j_newa C dX5_init_52 (Or.inl ⟨rfl, rfl⟩) ac_8 (by decide) g_S15 ?_
  obtain ⟨S16, g_S16, h⟩ := bd h
  refine j_pR C dX5_init_54 fl_RX5_37 (Or.inr ⟨rfl, hnm, rfl⟩) rfl g_S16 ?_
  refine j_aload_n C dX5_init_57 rfl (hl.at 0 rfl) ?_
  refine j_sipush (x := 128) C dX5_init_58 (by decide) ?_
  obtain ⟨S17, g_S17, h⟩ := bd h
  refine j_newa C dX5_init_61 (Or.inl ⟨rfl, rfl⟩) ac_8 (by decide) g_S17 ?_
  obtain ⟨S18, g_S18, h⟩ := bd h
  refine j_pR C dX5_init_63 fl_RX5_40 (Or.inr ⟨rfl, hnm, rfl⟩) rfl g_S18 ?_
  exact j_vret C dX5_init_66 hr h
noncomputable def f_X5_module (a0 : Option Nat) (S : AS) : Option RS :=
  gd (isK S a0 6) <|
  cV (f_X5_requireRoomForModule a0 S) fun S1 =>
  (nO S1 1).bind fun S4 =>
  cN (f_X0_init (some (hn S1)) S4) fun S5 =>
  gd (isK S5 a0 6) <|
  cR (f_X5_addShell a0 (some (hn S1)) S5) fun o8 S7 =>
  (gI S7 o8 5 0).bind fun v10 =>
  rI v10 S7
set_option maxHeartbeats 4000000 in
set_option maxRecDepth 100000 in
theorem m_X5_module {l : Launch} {b : Nat} {D : va_G} {dA : Nat → ClassId} (hst : l.stackTraces = false) {a0 : Option Nat} {S : AS} {q : RS} (h : f_X5_module a0 S = some q) : hp_M l b D dA yX5_module cX5_module 1 (some .int) 8 109 [rf b a0] S 1 q := by
  have hcat : ∀ v ∈ ([rf b a0] : List Value), v.category = 1 := (by intro v hv; simp only [List.mem_cons, List.not_mem_nil, or_false] at hv; rcases hv with rfl <;> first | exact cat_iv _ | exact cat_rf _ _)
  refine hp_ofJ (own := RX5) hst (by decide +kernel) rfl hcat (Nat.le_of_ble_eq_true rfl) ?_
  intro p e R s m args below meth c C hT hnm hr ls hl9
  have hl : hp_L ls 1 [(0, rf b a0)] := hp_L.of hl9 hcat
  unfold f_X5_module at h
  refine j_aload_n C dX5_module_0 rfl (hl.at 0 rfl) ?_
  obtain ⟨c3, h⟩ := gd_some h
  rcases cV_some h with ⟨S1, y2, hc, h⟩ | ⟨hc, hne⟩
  · refine j_callV C (run_W (As := []) (rest := []) C (m_X5_requireRoomForModule hst hc) cv_RX5_43 (by decide) rfl c3 rfl hl (by decide) (by decide) (by decide) dX5_module_1) ?_
    refine j_aload_n C dX5_module_4 rfl (hl.at 0 rfl) ?_
    obtain ⟨S4, g_S4, h⟩ := bd h
    refine j_new C dX5_module_5 nw_RX5_46 g_S4 ?_
    refine j_dup C dX5_module_8 (cat_rf _ _) ?_
    obtain ⟨S5, y6, hc, h⟩ := cN_some h
    refine j_callV C (run_I (As := []) (rest := [rf b (some (hn S1)), rf b a0]) C (m_X0_init hst hc) rfl ci_RX5_48 rfl hl.1.1 (by simp [cat_iv, cat_rf]) (by decide) (by decide) dX5_module_9) ?_
    obtain ⟨c9, h⟩ := gd_some h
    rcases cR_some h with ⟨S7, wo8, o8, hc, h⟩ | ⟨hc, hne⟩
    · refine j_callR C (run_W (As := [rf b (some (hn S1))]) (rest := []) C (m_X5_addShell hst hc) cv_RX5_49 (by decide) rfl c9 rfl hl (by decide) (by decide) (by decide) dX5_module_12) ?_
      obtain ⟨v10, g_v10, h⟩ := bd h
      refine j_gI C dX5_module_15 fl_RX5_53 (Or.inl rfl) g_v10 (fun hv10 => ?_)
      exact j_iret C dX5_module_18 hr hv10 h
    · exact j_thrown C hT (run_W (As := [rf b (some (hn S1))]) (rest := []) C (m_X5_addShell hst hc) cv_RX5_49 (by decide) rfl c9 rfl hl (by decide) (by decide) (by decide) dX5_module_12) hne
  · exact j_thrown C hT (run_W (As := []) (rest := []) C (m_X5_requireRoomForModule hst hc) cv_RX5_43 (by decide) rfl c3 rfl hl (by decide) (by decide) (by decide) dX5_module_1) hne
noncomputable def f_X5_port (a0 : Option Nat) (x1 : Int) (x2 : Int) (x3 : Int) (S : AS) : Option RS :=
  gd (isK S a0 6) <|
  cR (f_X5_shellAt a0 x1 S) fun o2 S1 =>
  (gI S1 o2 5 3).bind fun v4 =>
  if v4 = 16 then
    rX 2 S1
  else
    (gI S1 o2 5 5).bind fun v5 =>
    if v5 = 0 then
      if x2 < 1 then
        rX 3 S1
      else
        if x2 ≤ 8 then
          gd (isK S1 o2 5) <|
          cI (f_X4_addPort o2 x2 x3 S1) fun v7 S6 =>
          rI v7 S6
        else
          rX 3 S1
    else
      rX 2 S1
set_option maxHeartbeats 4000000 in
set_option maxRecDepth 100000 in
theorem m_X5_port {l : Launch} {b : Nat} {D : va_G} {dA : Nat → ClassId} (hst : l.stackTraces = false) {a0 : Option Nat} {x1 : Int} {x2 : Int} {x3 : Int} {S : AS} {q : RS} (hx1 : inR x1) (hx2 : inR x2) (hx3 : inR x3) (h : f_X5_port a0 x1 x2 x3 S = some q) : hp_M l b D dA yX5_port cX5_port 5 (some .int) 8 131 [rf b a0, iv x1, iv x2, iv x3] S 1 q := by
  have hcat : ∀ v ∈ ([rf b a0, iv x1, iv x2, iv x3] : List Value), v.category = 1 := (by intro v hv; simp only [List.mem_cons, List.not_mem_nil, or_false] at hv; rcases hv with rfl | rfl | rfl | rfl <;> first | exact cat_iv _ | exact cat_rf _ _)
  refine hp_ofJ (own := RX5) hst (by decide +kernel) rfl hcat (Nat.le_of_ble_eq_true rfl) ?_
  intro p e R s m args below meth c C hT hnm hr ls hl9
  have hl : hp_L ls 5 [(0, rf b a0), (1, iv x1), (2, iv x2), (3, iv x3)] := hp_L.of hl9 hcat
  unfold f_X5_port at h
  refine j_aload_n C dX5_port_0 rfl (hl.at 0 rfl) ?_
  refine j_iload_n C dX5_port_1 rfl (hl.at 1 rfl) ?_
  obtain ⟨c3, h⟩ := gd_some h
  rcases cR_some h with ⟨S1, wo2, o2, hc, h⟩ | ⟨hc, hne⟩
  · refine j_callR C (run_W (As := [iv x1]) (rest := []) C (m_X5_shellAt hst hx1 hc) cv_RX5_56 (by decide) rfl c3 rfl hl (by decide) (by decide) (by decide) dX5_port_2) ?_
    refine k_astore (lv' := [(4, rf b o2), (0, rf b a0), (1, iv x1), (2, iv x2), (3, iv x3)]) C dX5_port_5 hl (by decide) rfl (fun ls hl => ?_)
    refine j_aload C dX5_port_7 (hl.at 0 rfl) ?_
    obtain ⟨v4, g_v4, h⟩ := bd h
    refine j_gI C dX5_port_9 fl_RX5_60 (Or.inl rfl) g_v4 (fun hv4 => ?_)
    refine j_bipush (x := 16) C dX5_port_12 (by decide) ?_
    refine j_icmp_eq (tgt := 25) C dX5_port_14 (by decide) hv4 (by decide) (fun b1 => ?_) (fun b1 => ?_)
    · rw [if_pos b1] at h
      exact j_throw C hT tw_RX5_67 dX5_port_25 dX5_port_28 dX5_port_29 dX5_port_32 hl.1.1 (by decide) (by decide) h
    · rw [if_neg b1] at h
      refine j_aload C dX5_port_17 (hl.at 0 rfl) ?_
      obtain ⟨v5, g_v5, h⟩ := bd h
      refine j_gI C dX5_port_19 fl_RX5_63 (Or.inr rfl) g_v5 (fun hv5 => ?_)
      refine j_if_eq (tgt := 33) C dX5_port_22 (by decide) hv5 (fun b1 => ?_) (fun b1 => ?_)
      · rw [if_pos b1] at h
        refine j_iload_n C dX5_port_33 rfl (hl.at 3 rfl) ?_
        refine j_iconst C dX5_port_34 ?_
        refine j_icmp_lt (tgt := 44) C dX5_port_35 (by decide) hx2 (by decide) (fun b1 => ?_) (fun b1 => ?_)
        · rw [if_pos b1] at h
          exact j_throw C hT tw_RX5_70 dX5_port_44 dX5_port_47 dX5_port_48 dX5_port_51 hl.1.1 (by decide) (by decide) h
        · rw [if_neg b1] at h
          refine j_iload_n C dX5_port_38 rfl (hl.at 3 rfl) ?_
          refine j_bipush (x := 8) C dX5_port_39 (by decide) ?_
          refine j_icmp_le (tgt := 52) C dX5_port_41 (by decide) hx2 (by decide) (fun b1 => ?_) (fun b1 => ?_)
          · rw [if_pos b1] at h
            refine j_aload C dX5_port_52 (hl.at 0 rfl) ?_
            refine j_iload_n C dX5_port_54 rfl (hl.at 3 rfl) ?_
            refine j_iload_n C dX5_port_55 rfl (hl.at 4 rfl) ?_
            obtain ⟨c8, h⟩ := gd_some h
            rcases cI_some h with ⟨S6, v7, wv7, hc, h⟩ | ⟨hc, hne⟩
            · refine j_callI C (run_W (As := [iv x2, iv x3]) (rest := []) C (m_X4_addPort hst hx2 hx3 hc) cv_RX5_73 (by decide) rfl c8 rfl hl (by decide) (by decide) (by decide) dX5_port_56) (fun hv7 => ?_)
              exact j_iret C dX5_port_59 hr hv7 h
            · exact j_thrown C hT (run_W (As := [iv x2, iv x3]) (rest := []) C (m_X4_addPort hst hx2 hx3 hc) cv_RX5_73 (by decide) rfl c8 rfl hl (by decide) (by decide) (by decide) dX5_port_56) hne
          · rw [if_neg b1] at h
            exact j_throw C hT tw_RX5_70 dX5_port_44 dX5_port_47 dX5_port_48 dX5_port_51 hl.1.1 (by decide) (by decide) h
      · rw [if_neg b1] at h
        exact j_throw C hT tw_RX5_67 dX5_port_25 dX5_port_28 dX5_port_29 dX5_port_32 hl.1.1 (by decide) (by decide) h
  · exact j_thrown C hT (run_W (As := [iv x1]) (rest := []) C (m_X5_shellAt hst hx1 hc) cv_RX5_56 (by decide) rfl c3 rfl hl (by decide) (by decide) (by decide) dX5_port_2) hne
noncomputable def f_X5_instance (a0 : Option Nat) (x1 : Int) (x2 : Int) (S : AS) : Option RS :=
  gd (isK S a0 6) <|
  cR (f_X5_shellAt a0 x1 S) fun o2 S1 =>
  gd (isK S1 a0 6) <|
  cR (f_X5_shellAt a0 x2 S1) fun o5 S4 =>
  (gR S4 o2 5 6).bind fun o7 =>
  (gI S4 o7 1 2).bind fun v8 =>
  if v8 = 64 then
    rX 2 S4
  else
    gd (isK S4 a0 6) <|
    cI (f_X5_isWithin a0 o2 o5 S4) fun v10 S9 =>
    if v10 = 0 then
      cR (f_X5_insideToChange o2 S9) fun o13 S12 =>
      (nA S12 8 1).bind fun S14 =>
      (gI S14 o13 1 2).bind fun v15 =>
      (sI S14 (some (hn S12)) 8 0 v15).bind fun S16 =>
      (gI S16 o5 5 4).bind fun v17 =>
      (nA S16 8 v17).bind fun S18 =>
      cV (f_J7_fill_53178 (some (hn S16)) (-1) S18) fun S19 =>
      (pZ S19 o5 5 5 1).bind fun S21 =>
      (nO S21 4).bind fun S22 =>
      cN (f_X3_init (some (hn S21)) o5 (some (hn S12)) (some (hn S16)) S22) fun S23 =>
      gd (isK S23 o13 1) <|
      cI (f_X0_addPlacement o13 (some (hn S21)) S23) fun v26 S25 =>
      rI v26 S25
    else
      rI (-1) S9
set_option maxHeartbeats 4000000 in
set_option maxRecDepth 100000 in
theorem m_X5_instance {l : Launch} {b : Nat} {D : va_G} {dA : Nat → ClassId} (hst : l.stackTraces = false) {a0 : Option Nat} {x1 : Int} {x2 : Int} {S : AS} {q : RS} (hx1 : inR x1) (hx2 : inR x2) (h : f_X5_instance a0 x1 x2 S = some q) : hp_M l b D dA yX5_instance cX5_instance 8 (some .int) 40 823 [rf b a0, iv x1, iv x2] S 1 q := by
  have hcat : ∀ v ∈ ([rf b a0, iv x1, iv x2] : List Value), v.category = 1 := (by intro v hv; simp only [List.mem_cons, List.not_mem_nil, or_false] at hv; rcases hv with rfl | rfl | rfl <;> first | exact cat_iv _ | exact cat_rf _ _)
  refine hp_ofJ (own := RX5) hst (by decide +kernel) rfl hcat (Nat.le_of_ble_eq_true rfl) ?_
  intro p e R s m args below meth c C hT hnm hr ls hl9
  have hl : hp_L ls 8 [(0, rf b a0), (1, iv x1), (2, iv x2)] := hp_L.of hl9 hcat
  unfold f_X5_instance at h
  refine j_aload_n C dX5_instance_0 rfl (hl.at 0 rfl) ?_
  refine j_iload_n C dX5_instance_1 rfl (hl.at 1 rfl) ?_
  obtain ⟨c3, h⟩ := gd_some h
  rcases cR_some h with ⟨S1, wo2, o2, hc, h⟩ | ⟨hc, hne⟩
  · refine j_callR C (run_W (As := [iv x1]) (rest := []) C (m_X5_shellAt hst hx1 hc) cv_RX5_56 (by decide) rfl c3 rfl hl (by decide) (by decide) (by decide) dX5_instance_2) ?_
    refine k_astore_n (lv' := [(3, rf b o2), (0, rf b a0), (1, iv x1), (2, iv x2)]) C dX5_instance_5 rfl hl (by decide) rfl (fun ls hl => ?_)
    refine j_aload_n C dX5_instance_6 rfl (hl.at 1 rfl) ?_
    refine j_iload_n C dX5_instance_7 rfl (hl.at 3 rfl) ?_
    obtain ⟨c6, h⟩ := gd_some h
    rcases cR_some h with ⟨S4, wo5, o5, hc, h⟩ | ⟨hc, hne⟩
    · refine j_callR C (run_W (As := [iv x2]) (rest := []) C (m_X5_shellAt hst hx2 hc) cv_RX5_56 (by decide) rfl c6 rfl hl (by decide) (by decide) (by decide) dX5_instance_8) ?_
      refine k_astore (lv' := [(4, rf b o5), (3, rf b o2), (0, rf b a0), (1, iv x1), (2, iv x2)]) C dX5_instance_11 hl (by decide) rfl (fun ls hl => ?_)
      refine j_aload_n C dX5_instance_13 rfl (hl.at 1 rfl) ?_
      obtain ⟨o7, g_o7, h⟩ := bd h
      refine j_gR C dX5_instance_14 fl_RX5_77 rfl g_o7 ?_
      obtain ⟨v8, g_v8, h⟩ := bd h
      refine j_gI C dX5_instance_17 fl_RX5_81 (Or.inl rfl) g_v8 (fun hv8 => ?_)
      refine j_bipush (x := 64) C dX5_instance_20 (by decide) ?_
      refine j_icmp_ne (tgt := 33) C dX5_instance_22 (by decide) hv8 (by decide) (fun b1 => ?_) (fun b1 => ?_)
      · rw [if_neg b1] at h
        refine j_aload_n C dX5_instance_33 rfl (hl.at 2 rfl) ?_
        refine j_aload_n C dX5_instance_34 rfl (hl.at 1 rfl) ?_
        refine j_aload C dX5_instance_35 (hl.at 0 rfl) ?_
        obtain ⟨c11, h⟩ := gd_some h
        rcases cI_some h with ⟨S9, v10, wv10, hc, h⟩ | ⟨hc, hne⟩
        · refine j_callI C (run_W (As := [rf b o2, rf b o5]) (rest := []) C (m_X5_isWithin hst hc) cv_RX5_84 (by decide) rfl c11 rfl hl (by decide) (by decide) (by decide) dX5_instance_37) (fun hv10 => ?_)
          refine j_if_eq (tgt := 45) C dX5_instance_40 (by decide) hv10 (fun b1 => ?_) (fun b1 => ?_)
          · rw [if_pos b1] at h
            refine j_aload_n C dX5_instance_45 rfl (hl.at 1 rfl) ?_
            rcases cR_some h with ⟨S12, wo13, o13, hc, h⟩ | ⟨hc, hne⟩
            · refine j_callR C (run_S (As := [rf b o2]) (rest := []) C (m_X5_insideToChange hst hc) cs_RX5_88 rfl hl.1.1 (by decide) (by decide) (by decide) dX5_instance_46) ?_
              refine k_astore (lv' := [(5, rf b o13), (4, rf b o5), (3, rf b o2), (0, rf b a0), (1, iv x1), (2, iv x2)]) C dX5_instance_49 hl (by decide) rfl (fun ls hl => ?_)
              refine j_iconst C dX5_instance_51 ?_
              obtain ⟨S14, g_S14, h⟩ := bd h
              refine j_newa C dX5_instance_52 (Or.inl ⟨rfl, rfl⟩) ac_8 (by decide) g_S14 ?_
              refine j_dup C dX5_instance_54 (cat_rf _ _) ?_
              refine j_iconst C dX5_instance_55 ?_
              refine j_aload C dX5_instance_56 (hl.at 0 rfl) ?_
              obtain ⟨v15, g_v15, h⟩ := bd h
              refine j_gI C dX5_instance_58 fl_RX5_81 (Or.inl rfl) g_v15 (fun hv15 => ?_)
              obtain ⟨S16, g_S16, h⟩ := bd h
              refine j_iast C dX5_instance_61 (by decide) hv15 g_S16 ?_
              refine k_astore (lv' := [(6, rf b (some (hn S12))), (5, rf b o13), (4, rf b o5), (3, rf b o2), (0, rf b a0), (1, iv x1), (2, iv x2)]) C dX5_instance_62 hl (by decide) rfl (fun ls hl => ?_)
              refine j_aload C dX5_instance_64 (hl.at 2 rfl) ?_
              obtain ⟨v17, g_v17, h⟩ := bd h
              refine j_gI C dX5_instance_66 fl_RX5_92 (Or.inl rfl) g_v17 (fun hv17 => ?_)
              obtain ⟨S18, g_S18, h⟩ := bd h
              refine j_newa C dX5_instance_69 (Or.inl ⟨rfl, rfl⟩) ac_8 hv17 g_S18 ?_
              refine k_astore (lv' := [(7, rf b (some (hn S16))), (6, rf b (some (hn S12))), (5, rf b o13), (4, rf b o5), (3, rf b o2), (0, rf b a0), (1, iv x1), (2, iv x2)]) C dX5_instance_71 hl (by decide) rfl (fun ls hl => ?_)
              refine j_aload C dX5_instance_73 (hl.at 0 rfl) ?_
              refine j_iconst C dX5_instance_75 ?_
              rcases cV_some h with ⟨S19, y20, hc, h⟩ | ⟨hc, hne⟩
              · refine j_callV C (run_S (As := [rf b (some (hn S16)), iv (-1)]) (rest := []) C (m_J7_fill_53178 hst (by decide) hc) cs_RX5_95 rfl hl.1.1 (by decide) (by decide) (by decide) dX5_instance_76) ?_
                refine j_aload C dX5_instance_79 (hl.at 3 rfl) ?_
                refine j_iconst C dX5_instance_81 ?_
                obtain ⟨S21, g_S21, h⟩ := bd h
                refine j_pZ C dX5_instance_82 fl_RX5_63 (Or.inl rfl) rfl g_S21 ?_
                refine j_aload C dX5_instance_85 (hl.at 2 rfl) ?_
                obtain ⟨S22, g_S22, h⟩ := bd h
                refine j_new C dX5_instance_87 nw_RX5_101 g_S22 ?_
                refine j_dup C dX5_instance_90 (cat_rf _ _) ?_
                refine j_aload C dX5_instance_91 (hl.at 3 rfl) ?_
                refine j_aload C dX5_instance_93 (hl.at 1 rfl) ?_
                refine j_aload C dX5_instance_95 (hl.at 0 rfl) ?_
                obtain ⟨S23, y24, hc, h⟩ := cN_some h
                refine j_callV C (run_I (As := [rf b o5, rf b (some (hn S12)), rf b (some (hn S16))]) (rest := [rf b (some (hn S21)), rf b o13]) C (m_X3_init hst hc) rfl ci_RX5_103 rfl hl.1.1 (by simp [cat_iv, cat_rf]) (by decide) (by decide) dX5_instance_97) ?_
                obtain ⟨c27, h⟩ := gd_some h
                rcases cI_some h with ⟨S25, v26, wv26, hc, h⟩ | ⟨hc, hne⟩
                · refine j_callI C (run_W (As := [rf b (some (hn S21))]) (rest := []) C (m_X0_addPlacement hst hc) cv_RX5_106 (by decide) rfl c27 rfl hl (by decide) (by decide) (by decide) dX5_instance_100) (fun hv26 => ?_)
                  exact j_iret C dX5_instance_103 hr hv26 h
                · exact j_thrown C hT (run_W (As := [rf b (some (hn S21))]) (rest := []) C (m_X0_addPlacement hst hc) cv_RX5_106 (by decide) rfl c27 rfl hl (by decide) (by decide) (by decide) dX5_instance_100) hne
              · exact j_thrown C hT (run_S (As := [rf b (some (hn S16)), iv (-1)]) (rest := []) C (m_J7_fill_53178 hst (by decide) hc) cs_RX5_95 rfl hl.1.1 (by decide) (by decide) (by decide) dX5_instance_76) hne
            · exact j_thrown C hT (run_S (As := [rf b o2]) (rest := []) C (m_X5_insideToChange hst hc) cs_RX5_88 rfl hl.1.1 (by decide) (by decide) (by decide) dX5_instance_46) hne
          · rw [if_neg b1] at h
            refine j_iconst C dX5_instance_43 ?_
            exact j_iret C dX5_instance_44 hr (by decide) h
        · exact j_thrown C hT (run_W (As := [rf b o2, rf b o5]) (rest := []) C (m_X5_isWithin hst hc) cv_RX5_84 (by decide) rfl c11 rfl hl (by decide) (by decide) (by decide) dX5_instance_37) hne
      · rw [if_pos (Decidable.byContradiction b1)] at h
        exact j_throw C hT tw_RX5_67 dX5_instance_25 dX5_instance_28 dX5_instance_29 dX5_instance_32 hl.1.1 (by decide) (by decide) h
    · exact j_thrown C hT (run_W (As := [iv x2]) (rest := []) C (m_X5_shellAt hst hx2 hc) cv_RX5_56 (by decide) rfl c6 rfl hl (by decide) (by decide) (by decide) dX5_instance_8) hne
  · exact j_thrown C hT (run_W (As := [iv x1]) (rest := []) C (m_X5_shellAt hst hx1 hc) cv_RX5_56 (by decide) rfl c3 rfl hl (by decide) (by decide) (by decide) dX5_instance_2) hne
noncomputable def f_X5_net (a0 : Option Nat) (x1 : Int) (S : AS) : Option RS :=
  gd (isK S a0 6) <|
  cR (f_X5_shellAt a0 x1 S) fun o2 S1 =>
  (gR S1 o2 5 6).bind fun o4 =>
  (gI S1 o4 1 3).bind fun v5 =>
  if v5 = 128 then
    rX 2 S1
  else
    cR (f_X5_insideToChange o2 S1) fun o7 S6 =>
    gd (isK S6 o7 1) <|
    cI (f_X0_addNet o7 S6) fun v9 S8 =>
    rI v9 S8
set_option maxHeartbeats 4000000 in
set_option maxRecDepth 100000 in
theorem m_X5_net {l : Launch} {b : Nat} {D : va_G} {dA : Nat → ClassId} (hst : l.stackTraces = false) {a0 : Option Nat} {x1 : Int} {S : AS} {q : RS} (hx1 : inR x1) (h : f_X5_net a0 x1 S = some q) : hp_M l b D dA yX5_net cX5_net 3 (some .int) 10 131 [rf b a0, iv x1] S 1 q := by
  have hcat : ∀ v ∈ ([rf b a0, iv x1] : List Value), v.category = 1 := (by intro v hv; simp only [List.mem_cons, List.not_mem_nil, or_false] at hv; rcases hv with rfl | rfl <;> first | exact cat_iv _ | exact cat_rf _ _)
  refine hp_ofJ (own := RX5) hst (by decide +kernel) rfl hcat (Nat.le_of_ble_eq_true rfl) ?_
  intro p e R s m args below meth c C hT hnm hr ls hl9
  have hl : hp_L ls 3 [(0, rf b a0), (1, iv x1)] := hp_L.of hl9 hcat
  unfold f_X5_net at h
  refine j_aload_n C dX5_net_0 rfl (hl.at 0 rfl) ?_
  refine j_iload_n C dX5_net_1 rfl (hl.at 1 rfl) ?_
  obtain ⟨c3, h⟩ := gd_some h
  rcases cR_some h with ⟨S1, wo2, o2, hc, h⟩ | ⟨hc, hne⟩
  · refine j_callR C (run_W (As := [iv x1]) (rest := []) C (m_X5_shellAt hst hx1 hc) cv_RX5_56 (by decide) rfl c3 rfl hl (by decide) (by decide) (by decide) dX5_net_2) ?_
    refine k_astore_n (lv' := [(2, rf b o2), (0, rf b a0), (1, iv x1)]) C dX5_net_5 rfl hl (by decide) rfl (fun ls hl => ?_)
    refine j_aload_n C dX5_net_6 rfl (hl.at 0 rfl) ?_
    obtain ⟨o4, g_o4, h⟩ := bd h
    refine j_gR C dX5_net_7 fl_RX5_77 rfl g_o4 ?_
    obtain ⟨v5, g_v5, h⟩ := bd h
    refine j_gI C dX5_net_10 fl_RX5_110 (Or.inl rfl) g_v5 (fun hv5 => ?_)
    refine j_sipush (x := 128) C dX5_net_13 (by decide) ?_
    refine j_icmp_ne (tgt := 27) C dX5_net_16 (by decide) hv5 (by decide) (fun b1 => ?_) (fun b1 => ?_)
    · rw [if_neg b1] at h
      refine j_aload_n C dX5_net_27 rfl (hl.at 0 rfl) ?_
      rcases cR_some h with ⟨S6, wo7, o7, hc, h⟩ | ⟨hc, hne⟩
      · refine j_callR C (run_S (As := [rf b o2]) (rest := []) C (m_X5_insideToChange hst hc) cs_RX5_88 rfl hl.1.1 (by decide) (by decide) (by decide) dX5_net_28) ?_
        obtain ⟨c10, h⟩ := gd_some h
        rcases cI_some h with ⟨S8, v9, wv9, hc, h⟩ | ⟨hc, hne⟩
        · refine j_callI C (run_W (As := []) (rest := []) C (m_X0_addNet hst hc) cv_RX5_113 (by decide) rfl c10 rfl hl (by decide) (by decide) (by decide) dX5_net_31) (fun hv9 => ?_)
          exact j_iret C dX5_net_34 hr hv9 h
        · exact j_thrown C hT (run_W (As := []) (rest := []) C (m_X0_addNet hst hc) cv_RX5_113 (by decide) rfl c10 rfl hl (by decide) (by decide) (by decide) dX5_net_31) hne
      · exact j_thrown C hT (run_S (As := [rf b o2]) (rest := []) C (m_X5_insideToChange hst hc) cs_RX5_88 rfl hl.1.1 (by decide) (by decide) (by decide) dX5_net_28) hne
    · rw [if_pos (Decidable.byContradiction b1)] at h
      exact j_throw C hT tw_RX5_67 dX5_net_19 dX5_net_22 dX5_net_23 dX5_net_26 hl.1.1 (by decide) (by decide) h
  · exact j_thrown C hT (run_W (As := [iv x1]) (rest := []) C (m_X5_shellAt hst hx1 hc) cv_RX5_56 (by decide) rfl c3 rfl hl (by decide) (by decide) (by decide) dX5_net_2) hne
noncomputable def f_X5_join (a0 : Option Nat) (x1 : Int) (x2 : Int) (x3 : Int) (x4 : Int) (S : AS) : Option RS :=
  gd (isK S a0 6) <|
  cR (f_X5_shellAt a0 x1 S) fun o2 S1 =>
  cV (f_X5_requireNet o2 x2 S1) fun S4 =>
  cI (f_X5_moveTo x2 o2 x3 x4 S4) fun v7 S6 =>
  rZ v7 S6
set_option maxHeartbeats 4000000 in
set_option maxRecDepth 100000 in
theorem m_X5_join {l : Launch} {b : Nat} {D : va_G} {dA : Nat → ClassId} (hst : l.stackTraces = false) {a0 : Option Nat} {x1 : Int} {x2 : Int} {x3 : Int} {x4 : Int} {S : AS} {q : RS} (hx1 : inR x1) (hx2 : inR x2) (hx3 : inR x3) (hx4 : inR x4) (h : f_X5_join a0 x1 x2 x3 x4 S = some q) : hp_M l b D dA yX5_join cX5_join 6 (some .boolean) 11 177 [rf b a0, iv x1, iv x2, iv x3, iv x4] S 1 q := by
  have hcat : ∀ v ∈ ([rf b a0, iv x1, iv x2, iv x3, iv x4] : List Value), v.category = 1 := (by intro v hv; simp only [List.mem_cons, List.not_mem_nil, or_false] at hv; rcases hv with rfl | rfl | rfl | rfl | rfl <;> first | exact cat_iv _ | exact cat_rf _ _)
  refine hp_ofJ (own := RX5) hst (by decide +kernel) rfl hcat (Nat.le_of_ble_eq_true rfl) ?_
  intro p e R s m args below meth c C hT hnm hr ls hl9
  have hl : hp_L ls 6 [(0, rf b a0), (1, iv x1), (2, iv x2), (3, iv x3), (4, iv x4)] := hp_L.of hl9 hcat
  unfold f_X5_join at h
  refine j_aload_n C dX5_join_0 rfl (hl.at 0 rfl) ?_
  refine j_iload_n C dX5_join_1 rfl (hl.at 1 rfl) ?_
  obtain ⟨c3, h⟩ := gd_some h
  rcases cR_some h with ⟨S1, wo2, o2, hc, h⟩ | ⟨hc, hne⟩
  · refine j_callR C (run_W (As := [iv x1]) (rest := []) C (m_X5_shellAt hst hx1 hc) cv_RX5_56 (by decide) rfl c3 rfl hl (by decide) (by decide) (by decide) dX5_join_2) ?_
    refine k_astore (lv' := [(5, rf b o2), (0, rf b a0), (1, iv x1), (2, iv x2), (3, iv x3), (4, iv x4)]) C dX5_join_5 hl (by decide) rfl (fun ls hl => ?_)
    refine j_aload C dX5_join_7 (hl.at 0 rfl) ?_
    refine j_iload_n C dX5_join_9 rfl (hl.at 3 rfl) ?_
    rcases cV_some h with ⟨S4, y5, hc, h⟩ | ⟨hc, hne⟩
    · refine j_callV C (run_S (As := [rf b o2, iv x2]) (rest := []) C (m_X5_requireNet hst hx2 hc) cs_RX5_117 rfl hl.1.1 (by decide) (by decide) (by decide) dX5_join_10) ?_
      refine j_iload_n C dX5_join_13 rfl (hl.at 3 rfl) ?_
      refine j_aload C dX5_join_14 (hl.at 0 rfl) ?_
      refine j_iload_n C dX5_join_16 rfl (hl.at 4 rfl) ?_
      refine j_iload C dX5_join_17 (hl.at 5 rfl) ?_
      rcases cI_some h with ⟨S6, v7, wv7, hc, h⟩ | ⟨hc, hne⟩
      · refine j_callI C (run_S (As := [iv x2, rf b o2, iv x3, iv x4]) (rest := []) C (m_X5_moveTo hst hx2 hx3 hx4 hc) cs_RX5_121 rfl hl.1.1 (by decide) (by decide) (by decide) dX5_join_19) (fun hv7 => ?_)
        exact j_zret C dX5_join_22 hr h
      · exact j_thrown C hT (run_S (As := [iv x2, rf b o2, iv x3, iv x4]) (rest := []) C (m_X5_moveTo hst hx2 hx3 hx4 hc) cs_RX5_121 rfl hl.1.1 (by decide) (by decide) (by decide) dX5_join_19) hne
    · exact j_thrown C hT (run_S (As := [rf b o2, iv x2]) (rest := []) C (m_X5_requireNet hst hx2 hc) cs_RX5_117 rfl hl.1.1 (by decide) (by decide) (by decide) dX5_join_10) hne
  · exact j_thrown C hT (run_W (As := [iv x1]) (rest := []) C (m_X5_shellAt hst hx1 hc) cv_RX5_56 (by decide) rfl c3 rfl hl (by decide) (by decide) (by decide) dX5_join_2) hne
noncomputable def f_X5_part (a0 : Option Nat) (x1 : Int) (x2 : Int) (x3 : Int) (S : AS) : Option RS :=
  gd (isK S a0 6) <|
  cR (f_X5_shellAt a0 x1 S) fun o2 S1 =>
  cI (f_X5_moveTo (-1) o2 x2 x3 S1) fun v5 S4 =>
  rZ v5 S4
set_option maxHeartbeats 4000000 in
set_option maxRecDepth 100000 in
theorem m_X5_part {l : Launch} {b : Nat} {D : va_G} {dA : Nat → ClassId} (hst : l.stackTraces = false) {a0 : Option Nat} {x1 : Int} {x2 : Int} {x3 : Int} {S : AS} {q : RS} (hx1 : inR x1) (hx2 : inR x2) (hx3 : inR x3) (h : f_X5_part a0 x1 x2 x3 S = some q) : hp_M l b D dA yX5_part cX5_part 4 (some .boolean) 11 177 [rf b a0, iv x1, iv x2, iv x3] S 1 q := by
  have hcat : ∀ v ∈ ([rf b a0, iv x1, iv x2, iv x3] : List Value), v.category = 1 := (by intro v hv; simp only [List.mem_cons, List.not_mem_nil, or_false] at hv; rcases hv with rfl | rfl | rfl | rfl <;> first | exact cat_iv _ | exact cat_rf _ _)
  refine hp_ofJ (own := RX5) hst (by decide +kernel) rfl hcat (Nat.le_of_ble_eq_true rfl) ?_
  intro p e R s m args below meth c C hT hnm hr ls hl9
  have hl : hp_L ls 4 [(0, rf b a0), (1, iv x1), (2, iv x2), (3, iv x3)] := hp_L.of hl9 hcat
  unfold f_X5_part at h
  refine j_iconst C dX5_part_0 ?_
  refine j_aload_n C dX5_part_1 rfl (hl.at 0 rfl) ?_
  refine j_iload_n C dX5_part_2 rfl (hl.at 1 rfl) ?_
  obtain ⟨c3, h⟩ := gd_some h
  rcases cR_some h with ⟨S1, wo2, o2, hc, h⟩ | ⟨hc, hne⟩
  · refine j_callR C (run_W (As := [iv x1]) (rest := [iv (-1)]) C (m_X5_shellAt hst hx1 hc) cv_RX5_56 (by decide) rfl c3 rfl hl (by simp [cat_iv, cat_rf]) (by decide) (by decide) dX5_part_3) ?_
    refine j_iload_n C dX5_part_6 rfl (hl.at 2 rfl) ?_
    refine j_iload_n C dX5_part_7 rfl (hl.at 3 rfl) ?_
    rcases cI_some h with ⟨S4, v5, wv5, hc, h⟩ | ⟨hc, hne⟩
    · refine j_callI C (run_S (As := [iv (-1), rf b o2, iv x2, iv x3]) (rest := []) C (m_X5_moveTo hst (by decide) hx2 hx3 hc) cs_RX5_121 rfl hl.1.1 (by decide) (by decide) (by decide) dX5_part_8) (fun hv5 => ?_)
      exact j_zret C dX5_part_11 hr h
    · exact j_thrown C hT (run_S (As := [iv (-1), rf b o2, iv x2, iv x3]) (rest := []) C (m_X5_moveTo hst (by decide) hx2 hx3 hc) cs_RX5_121 rfl hl.1.1 (by decide) (by decide) (by decide) dX5_part_8) hne
  · exact j_thrown C hT (run_W (As := [iv x1]) (rest := [iv (-1)]) C (m_X5_shellAt hst hx1 hc) cv_RX5_56 (by decide) rfl c3 rfl hl (by simp [cat_iv, cat_rf]) (by decide) (by decide) dX5_part_3) hne
noncomputable def f_X5_netOf (a0 : Option Nat) (x1 : Int) (x2 : Int) (x3 : Int) (S : AS) : Option RS :=
  gd (isK S a0 6) <|
  cR (f_X5_shellAt a0 x1 S) fun o2 S1 =>
  cI (f_X5_netAt o2 x2 x3 S1) fun v5 S4 =>
  rI v5 S4
set_option maxHeartbeats 4000000 in
set_option maxRecDepth 100000 in
theorem m_X5_netOf {l : Launch} {b : Nat} {D : va_G} {dA : Nat → ClassId} (hst : l.stackTraces = false) {a0 : Option Nat} {x1 : Int} {x2 : Int} {x3 : Int} {S : AS} {q : RS} (hx1 : inR x1) (hx2 : inR x2) (hx3 : inR x3) (h : f_X5_netOf a0 x1 x2 x3 S = some q) : hp_M l b D dA yX5_netOf cX5_netOf 4 (some .int) 9 154 [rf b a0, iv x1, iv x2, iv x3] S 1 q := by
  have hcat : ∀ v ∈ ([rf b a0, iv x1, iv x2, iv x3] : List Value), v.category = 1 := (by intro v hv; simp only [List.mem_cons, List.not_mem_nil, or_false] at hv; rcases hv with rfl | rfl | rfl | rfl <;> first | exact cat_iv _ | exact cat_rf _ _)
  refine hp_ofJ (own := RX5) hst (by decide +kernel) rfl hcat (Nat.le_of_ble_eq_true rfl) ?_
  intro p e R s m args below meth c C hT hnm hr ls hl9
  have hl : hp_L ls 4 [(0, rf b a0), (1, iv x1), (2, iv x2), (3, iv x3)] := hp_L.of hl9 hcat
  unfold f_X5_netOf at h
  refine j_aload_n C dX5_netOf_0 rfl (hl.at 0 rfl) ?_
  refine j_iload_n C dX5_netOf_1 rfl (hl.at 1 rfl) ?_
  obtain ⟨c3, h⟩ := gd_some h
  rcases cR_some h with ⟨S1, wo2, o2, hc, h⟩ | ⟨hc, hne⟩
  · refine j_callR C (run_W (As := [iv x1]) (rest := []) C (m_X5_shellAt hst hx1 hc) cv_RX5_56 (by decide) rfl c3 rfl hl (by decide) (by decide) (by decide) dX5_netOf_2) ?_
    refine j_iload_n C dX5_netOf_5 rfl (hl.at 2 rfl) ?_
    refine j_iload_n C dX5_netOf_6 rfl (hl.at 3 rfl) ?_
    rcases cI_some h with ⟨S4, v5, wv5, hc, h⟩ | ⟨hc, hne⟩
    · refine j_callI C (run_S (As := [rf b o2, iv x2, iv x3]) (rest := []) C (m_X5_netAt hst hx2 hx3 hc) cs_RX5_125 rfl hl.1.1 (by decide) (by decide) (by decide) dX5_netOf_7) (fun hv5 => ?_)
      exact j_iret C dX5_netOf_10 hr hv5 h
    · exact j_thrown C hT (run_S (As := [rf b o2, iv x2, iv x3]) (rest := []) C (m_X5_netAt hst hx2 hx3 hc) cs_RX5_125 rfl hl.1.1 (by decide) (by decide) (by decide) dX5_netOf_7) hne
  · exact j_thrown C hT (run_W (As := [iv x1]) (rest := []) C (m_X5_shellAt hst hx1 hc) cv_RX5_56 (by decide) rfl c3 rfl hl (by decide) (by decide) (by decide) dX5_netOf_2) hne
noncomputable def f_X5_pins_48 (n : Nat) (k17 : Int → Option Nat → Int → Int → AS → Option RS) (x2 : Int) (a3 : Option Nat) (x4 : Int) (x5 : Int) (a6 : Option Nat) (x7 : Int) (x8 : Int) (S : AS) : Option RS := match n with
  | 0 => none
  | n + 1 =>
    if x7 ≤ x8 then
      (chk (x5 + 1)).bind fun z1 =>
      k17 x2 a3 x4 z1 S
    else
      (aI S a6 8 x8).bind fun v2 =>
      if v2 = x2 then
        (chk (x4 + 1)).bind fun z4 =>
        (chk (x8 + 1)).bind fun z5 =>
        f_X5_pins_48 n k17 x2 a3 z4 x5 a6 x7 z5 S
      else
        (chk (x8 + 1)).bind fun z3 =>
        f_X5_pins_48 n k17 x2 a3 x4 x5 a6 x7 z3 S
set_option maxHeartbeats 4000000 in
set_option maxRecDepth 100000 in
theorem w_X5_pins_48 {p : Program} {l : Launch} {e : Env} {R : Room} {s : State} {m : MethodId} {args : Array Value} {below : List Frame} {meth : Method} {c : Code} {b : Nat} {D : va_G} {dA : Nat → ClassId} {S0 : AS} {q : RS} (C : hp_C p l e R s m args below meth c b D dA S0 RX5 cX5_pins 10 8 131) (hT : ∀ x ∈ c.exceptionTable.toList, False) (hnm : meth.name = "pins") (hr : meth.sig.returnType = (some .int)) {k17 : Int → Option Nat → Int → Int → AS → Option RS} (hk17 : ∀ (x2 : Int) (a3 : Option Nat) (x4 : Int) (x5 : Int) (S : AS), inR x2 → inR x4 → inR x5 → k17 x2 a3 x4 x5 S = some q → ∀ ls : Array Slot, hp_L ls 10 [(2, iv x2), (3, rf b a3), (4, iv x4), (5, iv x5)] → hp_J p l e R s m args below meth c b D dA S0 (hp_Q below b D dA S0 1 q args s) S 17 ls []) : ∀ (n : Nat), ∀ (x2 : Int) (a3 : Option Nat) (x4 : Int) (x5 : Int) (a6 : Option Nat) (x7 : Int) (x8 : Int) (S : AS), inR x2 → inR x4 → inR x5 → inR x7 → inR x8 → f_X5_pins_48 n k17 x2 a3 x4 x5 a6 x7 x8 S = some q → ∀ ls : Array Slot, hp_L ls 10 [(2, iv x2), (3, rf b a3), (4, iv x4), (5, iv x5), (6, rf b a6), (7, iv x7), (8, iv x8)] → hp_J p l e R s m args below meth c b D dA S0 (hp_Q below b D dA S0 1 q args s) S 48 ls [] := by
  have hst : l.stackTraces = false := C.2.2.2.2.2.2.2.2.2.2.1
  intro n
  induction n with
  | zero =>
    intro x2 a3 x4 x5 a6 x7 x8 S hx2 hx4 hx5 hx7 hx8 h
    cases h
  | succ n ih =>
    intro x2 a3 x4 x5 a6 x7 x8 S hx2 hx4 hx5 hx7 hx8 h ls hl
    unfold f_X5_pins_48 at h
    refine j_iload C dX5_pins_48 (hl.at 6 rfl) ?_
    refine j_iload C dX5_pins_50 (hl.at 5 rfl) ?_
    refine j_icmp_ge (tgt := 77) C dX5_pins_52 (by decide) hx8 hx7 (fun b1 => ?_) (fun b1 => ?_)
    · rw [if_pos b1] at h
      obtain ⟨z1, g_z1, h⟩ := bd h
      refine k_iinc (k9 := 3) (lv' := [(5, iv z1), (2, iv x2), (3, rf b a3), (4, iv x4), (6, rf b a6), (7, iv x7), (8, iv x8)]) C dX5_pins_77 hl rfl g_z1 (by decide) rfl (fun hz1 ls hl => ?_)
      refine j_goto (tgt := 17) C dX5_pins_80 (by decide) ?_
      exact hk17 _ _ _ _ _ hx2 hx4 hz1 h ls (hl.sub [1, 2, 3, 0] rfl)
    · rw [if_neg b1] at h
      refine j_aload C dX5_pins_55 (hl.at 4 rfl) ?_
      refine j_iload C dX5_pins_57 (hl.at 6 rfl) ?_
      obtain ⟨v2, g_v2, h⟩ := bd h
      refine j_iald C dX5_pins_59 hx8 g_v2 (fun hv2 => ?_)
      refine k_istore (lv' := [(9, iv v2), (2, iv x2), (3, rf b a3), (4, iv x4), (5, iv x5), (6, rf b a6), (7, iv x7), (8, iv x8)]) C dX5_pins_60 hl (by decide) rfl (fun ls hl => ?_)
      refine j_iload C dX5_pins_62 (hl.at 0 rfl) ?_
      refine j_iload_n C dX5_pins_64 rfl (hl.at 1 rfl) ?_
      refine j_icmp_ne (tgt := 71) C dX5_pins_65 (by decide) hv2 hx2 (fun b1 => ?_) (fun b1 => ?_)
      · rw [if_neg b1] at h
        obtain ⟨z3, g_z3, h⟩ := bd h
        refine k_iinc (k9 := 7) (lv' := [(8, iv z3), (9, iv v2), (2, iv x2), (3, rf b a3), (4, iv x4), (5, iv x5), (6, rf b a6), (7, iv x7)]) C dX5_pins_71 hl rfl g_z3 (by decide) rfl (fun hz3 ls hl => ?_)
        refine j_goto (tgt := 48) C dX5_pins_74 (by decide) ?_
        exact ih _ _ _ _ _ _ _ _ hx2 hx4 hx5 hx7 hz3 h ls (hl.sub [2, 3, 4, 5, 6, 7, 0] rfl)
      · rw [if_pos (Decidable.byContradiction b1)] at h
        obtain ⟨z4, g_z4, h⟩ := bd h
        refine k_iinc (k9 := 3) (lv' := [(4, iv z4), (9, iv v2), (2, iv x2), (3, rf b a3), (5, iv x5), (6, rf b a6), (7, iv x7), (8, iv x8)]) C dX5_pins_68 hl rfl g_z4 (by decide) rfl (fun hz4 ls hl => ?_)
        obtain ⟨z5, g_z5, h⟩ := bd h
        refine k_iinc (k9 := 7) (lv' := [(8, iv z5), (4, iv z4), (9, iv v2), (2, iv x2), (3, rf b a3), (5, iv x5), (6, rf b a6), (7, iv x7)]) C dX5_pins_71 hl rfl g_z5 (by decide) rfl (fun hz5 ls hl => ?_)
        refine j_goto (tgt := 48) C dX5_pins_74 (by decide) ?_
        exact ih _ _ _ _ _ _ _ _ hx2 hz4 hx5 hx7 hz5 h ls (hl.sub [3, 4, 1, 5, 6, 7, 0] rfl)
noncomputable def f_X5_pins_17 (n : Nat) (x2 : Int) (a3 : Option Nat) (x4 : Int) (x5 : Int) (S : AS) : Option RS := match n with
  | 0 => none
  | n + 1 =>
    (gR S a3 5 6).bind fun o1 =>
    (gI S o1 1 2).bind fun v2 =>
    if v2 ≤ x5 then
      rI x4 S
    else
      (gR S a3 5 6).bind fun o3 =>
      gd (isK S o3 1) <|
      cR (f_X0_netsOf o3 x5 S) fun o5 S4 =>
      (ln S4 o5 8).bind fun v7 =>
      f_X5_pins_48 FU (f_X5_pins_17 n) x2 a3 x4 x5 o5 v7 0 S4
set_option maxHeartbeats 4000000 in
set_option maxRecDepth 100000 in
theorem w_X5_pins_17 {p : Program} {l : Launch} {e : Env} {R : Room} {s : State} {m : MethodId} {args : Array Value} {below : List Frame} {meth : Method} {c : Code} {b : Nat} {D : va_G} {dA : Nat → ClassId} {S0 : AS} {q : RS} (C : hp_C p l e R s m args below meth c b D dA S0 RX5 cX5_pins 10 8 131) (hT : ∀ x ∈ c.exceptionTable.toList, False) (hnm : meth.name = "pins") (hr : meth.sig.returnType = (some .int)) : ∀ (n : Nat), ∀ (x2 : Int) (a3 : Option Nat) (x4 : Int) (x5 : Int) (S : AS), inR x2 → inR x4 → inR x5 → f_X5_pins_17 n x2 a3 x4 x5 S = some q → ∀ ls : Array Slot, hp_L ls 10 [(2, iv x2), (3, rf b a3), (4, iv x4), (5, iv x5)] → hp_J p l e R s m args below meth c b D dA S0 (hp_Q below b D dA S0 1 q args s) S 17 ls [] := by
  have hst : l.stackTraces = false := C.2.2.2.2.2.2.2.2.2.2.1
  intro n
  induction n with
  | zero =>
    intro x2 a3 x4 x5 S hx2 hx4 hx5 h
    cases h
  | succ n ih =>
    intro x2 a3 x4 x5 S hx2 hx4 hx5 h ls hl
    unfold f_X5_pins_17 at h
    refine j_iload C dX5_pins_17 (hl.at 3 rfl) ?_
    refine j_aload_n C dX5_pins_19 rfl (hl.at 1 rfl) ?_
    obtain ⟨o1, g_o1, h⟩ := bd h
    refine j_gR C dX5_pins_20 fl_RX5_77 rfl g_o1 ?_
    obtain ⟨v2, g_v2, h⟩ := bd h
    refine j_gI C dX5_pins_23 fl_RX5_81 (Or.inl rfl) g_v2 (fun hv2 => ?_)
    refine j_icmp_ge (tgt := 83) C dX5_pins_26 (by decide) hx5 hv2 (fun b1 => ?_) (fun b1 => ?_)
    · rw [if_pos b1] at h
      refine j_iload C dX5_pins_83 (hl.at 2 rfl) ?_
      exact j_iret C dX5_pins_85 hr hx4 h
    · rw [if_neg b1] at h
      refine j_aload_n C dX5_pins_29 rfl (hl.at 1 rfl) ?_
      obtain ⟨o3, g_o3, h⟩ := bd h
      refine j_gR C dX5_pins_30 fl_RX5_77 rfl g_o3 ?_
      refine j_iload C dX5_pins_33 (hl.at 3 rfl) ?_
      obtain ⟨c6, h⟩ := gd_some h
      rcases cR_some h with ⟨S4, wo5, o5, hc, h⟩ | ⟨hc, hne⟩
      · refine j_callR C (run_W (As := [iv x5]) (rest := []) C (m_X0_netsOf hst hx5 hc) cv_RX5_129 (by decide) rfl c6 rfl hl (by decide) (by decide) (by decide) dX5_pins_35) ?_
        refine k_astore (lv' := [(6, rf b o5), (2, iv x2), (3, rf b a3), (4, iv x4), (5, iv x5)]) C dX5_pins_38 hl (by decide) rfl (fun ls hl => ?_)
        refine j_aload C dX5_pins_40 (hl.at 0 rfl) ?_
        obtain ⟨v7, g_v7, h⟩ := bd h
        refine j_alen C dX5_pins_42 (by decide) g_v7 (fun hv7 => ?_)
        refine k_istore (lv' := [(7, iv v7), (6, rf b o5), (2, iv x2), (3, rf b a3), (4, iv x4), (5, iv x5)]) C dX5_pins_43 hl (by decide) rfl (fun ls hl => ?_)
        refine j_iconst C dX5_pins_45 ?_
        refine k_istore (lv' := [(8, iv 0), (7, iv v7), (6, rf b o5), (2, iv x2), (3, rf b a3), (4, iv x4), (5, iv x5)]) C dX5_pins_46 hl (by decide) rfl (fun ls hl => ?_)
        exact w_X5_pins_48 C hT hnm hr ih FU _ _ _ _ _ _ _ _ hx2 hx4 hx5 hv7 (by decide) h ls (hl.sub [3, 4, 5, 6, 2, 1, 0] rfl)
      · exact j_thrown C hT (run_W (As := [iv x5]) (rest := []) C (m_X0_netsOf hst hx5 hc) cv_RX5_129 (by decide) rfl c6 rfl hl (by decide) (by decide) (by decide) dX5_pins_35) hne
noncomputable def f_X5_pins (a0 : Option Nat) (x1 : Int) (x2 : Int) (S : AS) : Option RS :=
  gd (isK S a0 6) <|
  cR (f_X5_shellAt a0 x1 S) fun o2 S1 =>
  cV (f_X5_requireNet o2 x2 S1) fun S4 =>
  f_X5_pins_17 FU x2 o2 0 (-1) S4
set_option maxHeartbeats 4000000 in
set_option maxRecDepth 100000 in
theorem m_X5_pins {l : Launch} {b : Nat} {D : va_G} {dA : Nat → ClassId} (hst : l.stackTraces = false) {a0 : Option Nat} {x1 : Int} {x2 : Int} {S : AS} {q : RS} (hx1 : inR x1) (hx2 : inR x2) (h : f_X5_pins a0 x1 x2 S = some q) : hp_M l b D dA yX5_pins cX5_pins 10 (some .int) 8 131 [rf b a0, iv x1, iv x2] S 1 q := by
  have hcat : ∀ v ∈ ([rf b a0, iv x1, iv x2] : List Value), v.category = 1 := (by intro v hv; simp only [List.mem_cons, List.not_mem_nil, or_false] at hv; rcases hv with rfl | rfl | rfl <;> first | exact cat_iv _ | exact cat_rf _ _)
  refine hp_ofJ (own := RX5) hst (by decide +kernel) rfl hcat (Nat.le_of_ble_eq_true rfl) ?_
  intro p e R s m args below meth c C hT hnm hr ls hl9
  have hl : hp_L ls 10 [(0, rf b a0), (1, iv x1), (2, iv x2)] := hp_L.of hl9 hcat
  unfold f_X5_pins at h
  refine j_aload_n C dX5_pins_0 rfl (hl.at 0 rfl) ?_
  refine j_iload_n C dX5_pins_1 rfl (hl.at 1 rfl) ?_
  obtain ⟨c3, h⟩ := gd_some h
  rcases cR_some h with ⟨S1, wo2, o2, hc, h⟩ | ⟨hc, hne⟩
  · refine j_callR C (run_W (As := [iv x1]) (rest := []) C (m_X5_shellAt hst hx1 hc) cv_RX5_56 (by decide) rfl c3 rfl hl (by decide) (by decide) (by decide) dX5_pins_2) ?_
    refine k_astore_n (lv' := [(3, rf b o2), (0, rf b a0), (1, iv x1), (2, iv x2)]) C dX5_pins_5 rfl hl (by decide) rfl (fun ls hl => ?_)
    refine j_aload_n C dX5_pins_6 rfl (hl.at 0 rfl) ?_
    refine j_iload_n C dX5_pins_7 rfl (hl.at 3 rfl) ?_
    rcases cV_some h with ⟨S4, y5, hc, h⟩ | ⟨hc, hne⟩
    · refine j_callV C (run_S (As := [rf b o2, iv x2]) (rest := []) C (m_X5_requireNet hst hx2 hc) cs_RX5_117 rfl hl.1.1 (by decide) (by decide) (by decide) dX5_pins_8) ?_
      refine j_iconst C dX5_pins_11 ?_
      refine k_istore (lv' := [(4, iv 0), (3, rf b o2), (0, rf b a0), (1, iv x1), (2, iv x2)]) C dX5_pins_12 hl (by decide) rfl (fun ls hl => ?_)
      refine j_iconst C dX5_pins_14 ?_
      refine k_istore (lv' := [(5, iv (-1)), (4, iv 0), (3, rf b o2), (0, rf b a0), (1, iv x1), (2, iv x2)]) C dX5_pins_15 hl (by decide) rfl (fun ls hl => ?_)
      exact w_X5_pins_17 C hT hnm hr FU _ _ _ _ _ hx2 (by decide) (by decide) h ls (hl.sub [5, 2, 1, 0] rfl)
    · exact j_thrown C hT (run_S (As := [rf b o2, iv x2]) (rest := []) C (m_X5_requireNet hst hx2 hc) cs_RX5_117 rfl hl.1.1 (by decide) (by decide) (by decide) dX5_pins_8) hne
  · exact j_thrown C hT (run_W (As := [iv x1]) (rest := []) C (m_X5_shellAt hst hx1 hc) cv_RX5_56 (by decide) rfl c3 rfl hl (by decide) (by decide) (by decide) dX5_pins_2) hne
noncomputable def f_X5_pin (a0 : Option Nat) (x1 : Int) (x2 : Int) (x3 : Int) (x4 : Int) (S : AS) : Option RS :=
  gd (isK S a0 6) <|
  cR (f_X5_shellAt a0 x1 S) fun o2 S1 =>
  cV (f_X5_requireNet o2 x2 S1) fun S4 =>
  cV (f_X5_requireWithin x4 3 S4) fun S6 =>
  (gR S6 o2 5 6).bind fun o8 =>
  cI (f_X5_placeOf o8 x2 x3 S6) fun v10 S9 =>
  if v10 = (-1) then
    rX 1 S9
  else
    (dvI v10 128).bind fun z11 =>
    (chk (z11 - 1)).bind fun z12 =>
    (rmI v10 128).bind fun z13 =>
    if x4 = 0 then
      rI z12 S9
    else
      if x4 = 1 then
        rI z13 S9
      else
        cI (f_X5_isDriver o2 z12 z13 S9) fun v15 S14 =>
        if v15 = 0 then
          rI 0 S14
        else
          rI 1 S14
set_option maxHeartbeats 4000000 in
set_option maxRecDepth 100000 in
theorem m_X5_pin {l : Launch} {b : Nat} {D : va_G} {dA : Nat → ClassId} (hst : l.stackTraces = false) {a0 : Option Nat} {x1 : Int} {x2 : Int} {x3 : Int} {x4 : Int} {S : AS} {q : RS} (hx1 : inR x1) (hx2 : inR x2) (hx3 : inR x3) (hx4 : inR x4) (h : f_X5_pin a0 x1 x2 x3 x4 S = some q) : hp_M l b D dA yX5_pin cX5_pin 9 (some .int) 8 131 [rf b a0, iv x1, iv x2, iv x3, iv x4] S 1 q := by
  have hcat : ∀ v ∈ ([rf b a0, iv x1, iv x2, iv x3, iv x4] : List Value), v.category = 1 := (by intro v hv; simp only [List.mem_cons, List.not_mem_nil, or_false] at hv; rcases hv with rfl | rfl | rfl | rfl | rfl <;> first | exact cat_iv _ | exact cat_rf _ _)
  refine hp_ofJ (own := RX5) hst (by decide +kernel) rfl hcat (Nat.le_of_ble_eq_true rfl) ?_
  intro p e R s m args below meth c C hT hnm hr ls hl9
  have hl : hp_L ls 9 [(0, rf b a0), (1, iv x1), (2, iv x2), (3, iv x3), (4, iv x4)] := hp_L.of hl9 hcat
  unfold f_X5_pin at h
  refine j_aload_n C dX5_pin_0 rfl (hl.at 0 rfl) ?_
  refine j_iload_n C dX5_pin_1 rfl (hl.at 1 rfl) ?_
  obtain ⟨c3, h⟩ := gd_some h
  rcases cR_some h with ⟨S1, wo2, o2, hc, h⟩ | ⟨hc, hne⟩
  · refine j_callR C (run_W (As := [iv x1]) (rest := []) C (m_X5_shellAt hst hx1 hc) cv_RX5_56 (by decide) rfl c3 rfl hl (by decide) (by decide) (by decide) dX5_pin_2) ?_
    refine k_astore (lv' := [(5, rf b o2), (0, rf b a0), (1, iv x1), (2, iv x2), (3, iv x3), (4, iv x4)]) C dX5_pin_5 hl (by decide) rfl (fun ls hl => ?_)
    refine j_aload C dX5_pin_7 (hl.at 0 rfl) ?_
    refine j_iload_n C dX5_pin_9 rfl (hl.at 3 rfl) ?_
    rcases cV_some h with ⟨S4, y5, hc, h⟩ | ⟨hc, hne⟩
    · refine j_callV C (run_S (As := [rf b o2, iv x2]) (rest := []) C (m_X5_requireNet hst hx2 hc) cs_RX5_117 rfl hl.1.1 (by decide) (by decide) (by decide) dX5_pin_10) ?_
      refine j_iload C dX5_pin_13 (hl.at 5 rfl) ?_
      refine j_iconst C dX5_pin_15 ?_
      rcases cV_some h with ⟨S6, y7, hc, h⟩ | ⟨hc, hne⟩
      · refine j_callV C (run_S (As := [iv x4, iv 3]) (rest := []) C (m_X5_requireWithin hst hx4 (by decide) hc) cs_RX5_133 rfl hl.1.1 (by decide) (by decide) (by decide) dX5_pin_16) ?_
        refine j_aload C dX5_pin_19 (hl.at 0 rfl) ?_
        obtain ⟨o8, g_o8, h⟩ := bd h
        refine j_gR C dX5_pin_21 fl_RX5_77 rfl g_o8 ?_
        refine j_iload_n C dX5_pin_24 rfl (hl.at 3 rfl) ?_
        refine j_iload_n C dX5_pin_25 rfl (hl.at 4 rfl) ?_
        rcases cI_some h with ⟨S9, v10, wv10, hc, h⟩ | ⟨hc, hne⟩
        · refine j_callI C (run_S (As := [rf b o8, iv x2, iv x3]) (rest := []) C (m_X5_placeOf hst hx2 hx3 hc) cs_RX5_137 rfl hl.1.1 (by decide) (by decide) (by decide) dX5_pin_26) (fun hv10 => ?_)
          refine k_istore (lv' := [(6, iv v10), (5, rf b o2), (0, rf b a0), (1, iv x1), (2, iv x2), (3, iv x3), (4, iv x4)]) C dX5_pin_29 hl (by decide) rfl (fun ls hl => ?_)
          refine j_iload C dX5_pin_31 (hl.at 0 rfl) ?_
          refine j_iconst C dX5_pin_33 ?_
          refine j_icmp_ne (tgt := 45) C dX5_pin_34 (by decide) hv10 (by decide) (fun b1 => ?_) (fun b1 => ?_)
          · rw [if_neg b1] at h
            refine j_iload C dX5_pin_45 (hl.at 0 rfl) ?_
            refine j_sipush (x := 128) C dX5_pin_47 (by decide) ?_
            obtain ⟨z11, g_z11, h⟩ := bd h
            refine j_idiv C dX5_pin_50 hv10 (by decide) g_z11 (fun hz11 => ?_)
            refine j_iconst C dX5_pin_51 ?_
            obtain ⟨z12, g_z12, h⟩ := bd h
            refine j_isub C dX5_pin_52 g_z12 (fun hz12 => ?_)
            refine k_istore (lv' := [(7, iv z12), (6, iv v10), (5, rf b o2), (0, rf b a0), (1, iv x1), (2, iv x2), (3, iv x3), (4, iv x4)]) C dX5_pin_53 hl (by decide) rfl (fun ls hl => ?_)
            refine j_iload C dX5_pin_55 (hl.at 1 rfl) ?_
            refine j_sipush (x := 128) C dX5_pin_57 (by decide) ?_
            obtain ⟨z13, g_z13, h⟩ := bd h
            refine j_irem C dX5_pin_60 hv10 (by decide) g_z13 (fun hz13 => ?_)
            refine k_istore (lv' := [(8, iv z13), (7, iv z12), (6, iv v10), (5, rf b o2), (0, rf b a0), (1, iv x1), (2, iv x2), (3, iv x3), (4, iv x4)]) C dX5_pin_61 hl (by decide) rfl (fun ls hl => ?_)
            refine j_iload C dX5_pin_63 (hl.at 8 rfl) ?_
            refine j_if_ne (tgt := 71) C dX5_pin_65 (by decide) hx4 (fun b1 => ?_) (fun b1 => ?_)
            · rw [if_neg b1] at h
              refine j_iload C dX5_pin_71 (hl.at 8 rfl) ?_
              refine j_iconst C dX5_pin_73 ?_
              refine j_icmp_ne (tgt := 80) C dX5_pin_74 (by decide) hx4 (by decide) (fun b1 => ?_) (fun b1 => ?_)
              · rw [if_neg b1] at h
                refine j_aload C dX5_pin_80 (hl.at 3 rfl) ?_
                refine j_iload C dX5_pin_82 (hl.at 1 rfl) ?_
                refine j_iload C dX5_pin_84 (hl.at 0 rfl) ?_
                rcases cI_some h with ⟨S14, v15, wv15, hc, h⟩ | ⟨hc, hne⟩
                · refine j_callI C (run_S (As := [rf b o2, iv z12, iv z13]) (rest := []) C (m_X5_isDriver hst hz12 hz13 hc) cs_RX5_144 rfl hl.1.1 (by decide) (by decide) (by decide) dX5_pin_86) (fun hv15 => ?_)
                  refine j_if_eq (tgt := 96) C dX5_pin_89 (by decide) hv15 (fun b1 => ?_) (fun b1 => ?_)
                  · rw [if_pos b1] at h
                    refine j_iconst C dX5_pin_96 ?_
                    exact j_iret C dX5_pin_97 hr (by decide) h
                  · rw [if_neg b1] at h
                    refine j_iconst C dX5_pin_92 ?_
                    refine j_goto (tgt := 97) C dX5_pin_93 (by decide) ?_
                    exact j_iret C dX5_pin_97 hr (by decide) h
                · exact j_thrown C hT (run_S (As := [rf b o2, iv z12, iv z13]) (rest := []) C (m_X5_isDriver hst hz12 hz13 hc) cs_RX5_144 rfl hl.1.1 (by decide) (by decide) (by decide) dX5_pin_86) hne
              · rw [if_pos (Decidable.byContradiction b1)] at h
                refine j_iload C dX5_pin_77 (hl.at 0 rfl) ?_
                exact j_iret C dX5_pin_79 hr hz13 h
            · rw [if_pos (Decidable.byContradiction b1)] at h
              refine j_iload C dX5_pin_68 (hl.at 1 rfl) ?_
              exact j_iret C dX5_pin_70 hr hz12 h
          · rw [if_pos (Decidable.byContradiction b1)] at h
            exact j_throw C hT tw_RX5_141 dX5_pin_37 dX5_pin_40 dX5_pin_41 dX5_pin_44 hl.1.1 (by decide) (by decide) h
        · exact j_thrown C hT (run_S (As := [rf b o8, iv x2, iv x3]) (rest := []) C (m_X5_placeOf hst hx2 hx3 hc) cs_RX5_137 rfl hl.1.1 (by decide) (by decide) (by decide) dX5_pin_26) hne
      · exact j_thrown C hT (run_S (As := [iv x4, iv 3]) (rest := []) C (m_X5_requireWithin hst hx4 (by decide) hc) cs_RX5_133 rfl hl.1.1 (by decide) (by decide) (by decide) dX5_pin_16) hne
    · exact j_thrown C hT (run_S (As := [rf b o2, iv x2]) (rest := []) C (m_X5_requireNet hst hx2 hc) cs_RX5_117 rfl hl.1.1 (by decide) (by decide) (by decide) dX5_pin_10) hne
  · exact j_thrown C hT (run_W (As := [iv x1]) (rest := []) C (m_X5_shellAt hst hx1 hc) cv_RX5_56 (by decide) rfl c3 rfl hl (by decide) (by decide) (by decide) dX5_pin_2) hne
noncomputable def f_X5_copy (a0 : Option Nat) (x1 : Int) (S : AS) : Option RS :=
  gd (isK S a0 6) <|
  cR (f_X5_shellAt a0 x1 S) fun o2 S1 =>
  gd (isK S1 a0 6) <|
  cV (f_X5_requireRoomForModule a0 S1) fun S4 =>
  (gR S4 o2 5 6).bind fun o7 =>
  (gI S4 o7 1 4).bind fun v8 =>
  (chk (v8 + 1)).bind fun z9 =>
  (pI S4 o7 1 4 z9).bind fun S10 =>
  (gR S10 o2 5 6).bind fun o11 =>
  gd (isK S10 a0 6) <|
  cR (f_X5_addShell a0 o11 S10) fun o13 S12 =>
  gd (isK S12 o13 5) <|
  cV (f_X4_takePorts o13 o2 S12) fun S15 =>
  (gI S15 o13 5 0).bind fun v18 =>
  rI v18 S15
set_option maxHeartbeats 4000000 in
set_option maxRecDepth 100000 in
theorem m_X5_copy {l : Launch} {b : Nat} {D : va_G} {dA : Nat → ClassId} (hst : l.stackTraces = false) {a0 : Option Nat} {x1 : Int} {S : AS} {q : RS} (hx1 : inR x1) (h : f_X5_copy a0 x1 S = some q) : hp_M l b D dA yX5_copy cX5_copy 4 (some .int) 8 131 [rf b a0, iv x1] S 1 q := by
  have hcat : ∀ v ∈ ([rf b a0, iv x1] : List Value), v.category = 1 := (by intro v hv; simp only [List.mem_cons, List.not_mem_nil, or_false] at hv; rcases hv with rfl | rfl <;> first | exact cat_iv _ | exact cat_rf _ _)
  refine hp_ofJ (own := RX5) hst (by decide +kernel) rfl hcat (Nat.le_of_ble_eq_true rfl) ?_
  intro p e R s m args below meth c C hT hnm hr ls hl9
  have hl : hp_L ls 4 [(0, rf b a0), (1, iv x1)] := hp_L.of hl9 hcat
  unfold f_X5_copy at h
  refine j_aload_n C dX5_copy_0 rfl (hl.at 0 rfl) ?_
  refine j_iload_n C dX5_copy_1 rfl (hl.at 1 rfl) ?_
  obtain ⟨c3, h⟩ := gd_some h
  rcases cR_some h with ⟨S1, wo2, o2, hc, h⟩ | ⟨hc, hne⟩
  · refine j_callR C (run_W (As := [iv x1]) (rest := []) C (m_X5_shellAt hst hx1 hc) cv_RX5_56 (by decide) rfl c3 rfl hl (by decide) (by decide) (by decide) dX5_copy_2) ?_
    refine k_astore_n (lv' := [(2, rf b o2), (0, rf b a0), (1, iv x1)]) C dX5_copy_5 rfl hl (by decide) rfl (fun ls hl => ?_)
    refine j_aload_n C dX5_copy_6 rfl (hl.at 1 rfl) ?_
    obtain ⟨c6, h⟩ := gd_some h
    rcases cV_some h with ⟨S4, y5, hc, h⟩ | ⟨hc, hne⟩
    · refine j_callV C (run_W (As := []) (rest := []) C (m_X5_requireRoomForModule hst hc) cv_RX5_43 (by decide) rfl c6 rfl hl (by decide) (by decide) (by decide) dX5_copy_7) ?_
      refine j_aload_n C dX5_copy_10 rfl (hl.at 0 rfl) ?_
      obtain ⟨o7, g_o7, h⟩ := bd h
      refine j_gR C dX5_copy_11 fl_RX5_77 rfl g_o7 ?_
      refine j_dup C dX5_copy_14 (cat_rf _ _) ?_
      obtain ⟨v8, g_v8, h⟩ := bd h
      refine j_gI C dX5_copy_15 fl_RX5_148 (Or.inl rfl) g_v8 (fun hv8 => ?_)
      refine j_iconst C dX5_copy_18 ?_
      obtain ⟨z9, g_z9, h⟩ := bd h
      refine j_iadd C dX5_copy_19 g_z9 (fun hz9 => ?_)
      obtain ⟨S10, g_S10, h⟩ := bd h
      refine j_pI C dX5_copy_20 fl_RX5_148 (Or.inl rfl) rfl hz9 g_S10 ?_
      refine j_aload_n C dX5_copy_23 rfl (hl.at 1 rfl) ?_
      refine j_aload_n C dX5_copy_24 rfl (hl.at 0 rfl) ?_
      obtain ⟨o11, g_o11, h⟩ := bd h
      refine j_gR C dX5_copy_25 fl_RX5_77 rfl g_o11 ?_
      obtain ⟨c14, h⟩ := gd_some h
      rcases cR_some h with ⟨S12, wo13, o13, hc, h⟩ | ⟨hc, hne⟩
      · refine j_callR C (run_W (As := [rf b o11]) (rest := []) C (m_X5_addShell hst hc) cv_RX5_49 (by decide) rfl c14 rfl hl (by decide) (by decide) (by decide) dX5_copy_28) ?_
        refine k_astore_n (lv' := [(3, rf b o13), (2, rf b o2), (0, rf b a0), (1, iv x1)]) C dX5_copy_31 rfl hl (by decide) rfl (fun ls hl => ?_)
        refine j_aload_n C dX5_copy_32 rfl (hl.at 0 rfl) ?_
        refine j_aload_n C dX5_copy_33 rfl (hl.at 1 rfl) ?_
        obtain ⟨c17, h⟩ := gd_some h
        rcases cV_some h with ⟨S15, y16, hc, h⟩ | ⟨hc, hne⟩
        · refine j_callV C (run_W (As := [rf b o2]) (rest := []) C (m_X4_takePorts hst hc) cv_RX5_151 (by decide) rfl c17 rfl hl (by decide) (by decide) (by decide) dX5_copy_34) ?_
          refine j_aload_n C dX5_copy_37 rfl (hl.at 0 rfl) ?_
          obtain ⟨v18, g_v18, h⟩ := bd h
          refine j_gI C dX5_copy_38 fl_RX5_53 (Or.inl rfl) g_v18 (fun hv18 => ?_)
          exact j_iret C dX5_copy_41 hr hv18 h
        · exact j_thrown C hT (run_W (As := [rf b o2]) (rest := []) C (m_X4_takePorts hst hc) cv_RX5_151 (by decide) rfl c17 rfl hl (by decide) (by decide) (by decide) dX5_copy_34) hne
      · exact j_thrown C hT (run_W (As := [rf b o11]) (rest := []) C (m_X5_addShell hst hc) cv_RX5_49 (by decide) rfl c14 rfl hl (by decide) (by decide) (by decide) dX5_copy_28) hne
    · exact j_thrown C hT (run_W (As := []) (rest := []) C (m_X5_requireRoomForModule hst hc) cv_RX5_43 (by decide) rfl c6 rfl hl (by decide) (by decide) (by decide) dX5_copy_7) hne
  · exact j_thrown C hT (run_W (As := [iv x1]) (rest := []) C (m_X5_shellAt hst hx1 hc) cv_RX5_56 (by decide) rfl c3 rfl hl (by decide) (by decide) (by decide) dX5_copy_2) hne
noncomputable def f_X5_shared (a0 : Option Nat) (x1 : Int) (x2 : Int) (S : AS) : Option RS :=
  gd (isK S a0 6) <|
  cR (f_X5_shellAt a0 x1 S) fun o2 S1 =>
  (gR S1 o2 5 6).bind fun o4 =>
  gd (isK S1 a0 6) <|
  cR (f_X5_shellAt a0 x2 S1) fun o6 S5 =>
  (gR S5 o6 5 6).bind fun o8 =>
  if o4 = o8 then
    rZ 1 S5
  else
    rZ 0 S5
set_option maxHeartbeats 4000000 in
set_option maxRecDepth 100000 in
theorem m_X5_shared {l : Launch} {b : Nat} {D : va_G} {dA : Nat → ClassId} (hst : l.stackTraces = false) {a0 : Option Nat} {x1 : Int} {x2 : Int} {S : AS} {q : RS} (hx1 : inR x1) (hx2 : inR x2) (h : f_X5_shared a0 x1 x2 S = some q) : hp_M l b D dA yX5_shared cX5_shared 3 (some .boolean) 8 131 [rf b a0, iv x1, iv x2] S 1 q := by
  have hcat : ∀ v ∈ ([rf b a0, iv x1, iv x2] : List Value), v.category = 1 := (by intro v hv; simp only [List.mem_cons, List.not_mem_nil, or_false] at hv; rcases hv with rfl | rfl | rfl <;> first | exact cat_iv _ | exact cat_rf _ _)
  refine hp_ofJ (own := RX5) hst (by decide +kernel) rfl hcat (Nat.le_of_ble_eq_true rfl) ?_
  intro p e R s m args below meth c C hT hnm hr ls hl9
  have hl : hp_L ls 3 [(0, rf b a0), (1, iv x1), (2, iv x2)] := hp_L.of hl9 hcat
  unfold f_X5_shared at h
  refine j_aload_n C dX5_shared_0 rfl (hl.at 0 rfl) ?_
  refine j_iload_n C dX5_shared_1 rfl (hl.at 1 rfl) ?_
  obtain ⟨c3, h⟩ := gd_some h
  rcases cR_some h with ⟨S1, wo2, o2, hc, h⟩ | ⟨hc, hne⟩
  · refine j_callR C (run_W (As := [iv x1]) (rest := []) C (m_X5_shellAt hst hx1 hc) cv_RX5_56 (by decide) rfl c3 rfl hl (by decide) (by decide) (by decide) dX5_shared_2) ?_
    obtain ⟨o4, g_o4, h⟩ := bd h
    refine j_gR C dX5_shared_5 fl_RX5_77 rfl g_o4 ?_
    refine j_aload_n C dX5_shared_8 rfl (hl.at 0 rfl) ?_
    refine j_iload_n C dX5_shared_9 rfl (hl.at 2 rfl) ?_
    obtain ⟨c7, h⟩ := gd_some h
    rcases cR_some h with ⟨S5, wo6, o6, hc, h⟩ | ⟨hc, hne⟩
    · refine j_callR C (run_W (As := [iv x2]) (rest := [rf b o4]) C (m_X5_shellAt hst hx2 hc) cv_RX5_56 (by decide) rfl c7 rfl hl (by simp [cat_iv, cat_rf]) (by decide) (by decide) dX5_shared_10) ?_
      obtain ⟨o8, g_o8, h⟩ := bd h
      refine j_gR C dX5_shared_13 fl_RX5_77 rfl g_o8 ?_
      refine j_acmp_ne (tgt := 23) C dX5_shared_16 (by decide) (fun b1 => ?_) (fun b1 => ?_)
      · rw [if_neg b1] at h
        refine j_iconst C dX5_shared_23 ?_
        exact j_zret C dX5_shared_24 hr h
      · rw [if_pos (Decidable.byContradiction b1)] at h
        refine j_iconst C dX5_shared_19 ?_
        refine j_goto (tgt := 24) C dX5_shared_20 (by decide) ?_
        exact j_zret C dX5_shared_24 hr h
    · exact j_thrown C hT (run_W (As := [iv x2]) (rest := [rf b o4]) C (m_X5_shellAt hst hx2 hc) cv_RX5_56 (by decide) rfl c7 rfl hl (by simp [cat_iv, cat_rf]) (by decide) (by decide) dX5_shared_10) hne
  · exact j_thrown C hT (run_W (As := [iv x1]) (rest := []) C (m_X5_shellAt hst hx1 hc) cv_RX5_56 (by decide) rfl c3 rfl hl (by decide) (by decide) (by decide) dX5_shared_2) hne
noncomputable def f_X5_flat (a0 : Option Nat) (x1 : Int) (S : AS) : Option RS :=
  gd (isK S a0 6) <|
  cR (f_X5_shellAt a0 x1 S) fun o2 S1 =>
  gd (isK S1 a0 6) <|
  cV (f_X5_requireRoomForModule a0 S1) fun S4 =>
  gd (isK S4 a0 6) <|
  cI (f_X5_leavesIn a0 o2 S4) fun v8 S7 =>
  if 64 < v8 then
    rX 4 S7
  else
    gd (isK S7 a0 6) <|
    cI (f_X5_netsOfOccurrences a0 o2 S7) fun v11 S10 =>
    if v11 ≤ 3000 then
      (gR S10 a0 6 3).bind fun o13 =>
      gd (isK S10 o13 2) <|
      cV (f_X1_restart o13 S10) fun S14 =>
      (gR S14 a0 6 3).bind fun o17 =>
      (gR S14 o2 5 6).bind fun o18 =>
      (gI S14 o18 1 3).bind fun v19 =>
      gd (isK S14 o17 2) <|
      cI (f_X1_addNets o17 v19 S14) fun v21 S20 =>
      (gR S20 a0 6 3).bind fun o23 =>
      cV (f_X5_layOut 30 o2 v21 o23 0 S20) fun S24 =>
      (gR S24 a0 6 3).bind fun o26 =>
      gd (isK S24 o26 2) <|
      cI (f_X1_numberNets o26 S24) fun v28 S27 =>
      if v28 ≤ 128 then
        (gR S27 a0 6 3).bind fun o30 =>
        gd (isK S27 o30 2) <|
        cR (f_X1_insideFor o30 o2 v28 S27) fun o32 S31 =>
        gd (isK S31 a0 6) <|
        cR (f_X5_addShell a0 o32 S31) fun o35 S34 =>
        gd (isK S34 o35 5) <|
        cV (f_X4_takePorts o35 o2 S34) fun S37 =>
        (gI S37 o35 5 0).bind fun v40 =>
        rI v40 S37
      else
        rX 4 S27
    else
      rX 4 S10
set_option maxHeartbeats 4000000 in
set_option maxRecDepth 100000 in
theorem m_X5_flat {l : Launch} {b : Nat} {D : va_G} {dA : Nat → ClassId} (hst : l.stackTraces = false) {a0 : Option Nat} {x1 : Int} {S : AS} {q : RS} (hx1 : inR x1) (h : f_X5_flat a0 x1 S = some q) : hp_M l b D dA yX5_flat cX5_flat 5 (some .int) 40 992 [rf b a0, iv x1] S 1 q := by
  have hcat : ∀ v ∈ ([rf b a0, iv x1] : List Value), v.category = 1 := (by intro v hv; simp only [List.mem_cons, List.not_mem_nil, or_false] at hv; rcases hv with rfl | rfl <;> first | exact cat_iv _ | exact cat_rf _ _)
  refine hp_ofJ (own := RX5) hst (by decide +kernel) rfl hcat (Nat.le_of_ble_eq_true rfl) ?_
  intro p e R s m args below meth c C hT hnm hr ls hl9
  have hl : hp_L ls 5 [(0, rf b a0), (1, iv x1)] := hp_L.of hl9 hcat
  unfold f_X5_flat at h
  refine j_aload_n C dX5_flat_0 rfl (hl.at 0 rfl) ?_
  refine j_iload_n C dX5_flat_1 rfl (hl.at 1 rfl) ?_
  obtain ⟨c3, h⟩ := gd_some h
  rcases cR_some h with ⟨S1, wo2, o2, hc, h⟩ | ⟨hc, hne⟩
  · refine j_callR C (run_W (As := [iv x1]) (rest := []) C (m_X5_shellAt hst hx1 hc) cv_RX5_56 (by decide) rfl c3 rfl hl (by decide) (by decide) (by decide) dX5_flat_2) ?_
    refine k_astore_n (lv' := [(2, rf b o2), (0, rf b a0), (1, iv x1)]) C dX5_flat_5 rfl hl (by decide) rfl (fun ls hl => ?_)
    refine j_aload_n C dX5_flat_6 rfl (hl.at 1 rfl) ?_
    obtain ⟨c6, h⟩ := gd_some h
    rcases cV_some h with ⟨S4, y5, hc, h⟩ | ⟨hc, hne⟩
    · refine j_callV C (run_W (As := []) (rest := []) C (m_X5_requireRoomForModule hst hc) cv_RX5_43 (by decide) rfl c6 rfl hl (by decide) (by decide) (by decide) dX5_flat_7) ?_
      refine j_aload_n C dX5_flat_10 rfl (hl.at 1 rfl) ?_
      refine j_aload_n C dX5_flat_11 rfl (hl.at 0 rfl) ?_
      obtain ⟨c9, h⟩ := gd_some h
      rcases cI_some h with ⟨S7, v8, wv8, hc, h⟩ | ⟨hc, hne⟩
      · refine j_callI C (run_W (As := [rf b o2]) (rest := []) C (m_X5_leavesIn hst hc) cv_RX5_155 (by decide) rfl c9 rfl hl (by decide) (by decide) (by decide) dX5_flat_12) (fun hv8 => ?_)
        refine j_bipush (x := 64) C dX5_flat_15 (by decide) ?_
        refine j_icmp_gt (tgt := 31) C dX5_flat_17 (by decide) hv8 (by decide) (fun b1 => ?_) (fun b1 => ?_)
        · rw [if_pos b1] at h
          exact j_throw C hT tw_RX5_162 dX5_flat_31 dX5_flat_34 dX5_flat_35 dX5_flat_38 hl.1.1 (by decide) (by decide) h
        · rw [if_neg b1] at h
          refine j_aload_n C dX5_flat_20 rfl (hl.at 1 rfl) ?_
          refine j_aload_n C dX5_flat_21 rfl (hl.at 0 rfl) ?_
          obtain ⟨c12, h⟩ := gd_some h
          rcases cI_some h with ⟨S10, v11, wv11, hc, h⟩ | ⟨hc, hne⟩
          · refine j_callI C (run_W (As := [rf b o2]) (rest := []) C (m_X5_netsOfOccurrences hst hc) cv_RX5_159 (by decide) rfl c12 rfl hl (by decide) (by decide) (by decide) dX5_flat_22) (fun hv11 => ?_)
            refine j_sipush (x := 3000) C dX5_flat_25 (by decide) ?_
            refine j_icmp_le (tgt := 39) C dX5_flat_28 (by decide) hv11 (by decide) (fun b1 => ?_) (fun b1 => ?_)
            · rw [if_pos b1] at h
              refine j_aload_n C dX5_flat_39 rfl (hl.at 1 rfl) ?_
              obtain ⟨o13, g_o13, h⟩ := bd h
              refine j_gR C dX5_flat_40 fl_RX5_29 rfl g_o13 ?_
              obtain ⟨c16, h⟩ := gd_some h
              rcases cV_some h with ⟨S14, y15, hc, h⟩ | ⟨hc, hne⟩
              · refine j_callV C (run_W (As := []) (rest := []) C (m_X1_restart hst hc) cv_RX5_165 (by decide) rfl c16 rfl hl (by decide) (by decide) (by decide) dX5_flat_43) ?_
                refine j_aload_n C dX5_flat_46 rfl (hl.at 0 rfl) ?_
                refine j_aload_n C dX5_flat_47 rfl (hl.at 1 rfl) ?_
                obtain ⟨o17, g_o17, h⟩ := bd h
                refine j_gR C dX5_flat_48 fl_RX5_29 rfl g_o17 ?_
                refine j_aload_n C dX5_flat_51 rfl (hl.at 0 rfl) ?_
                obtain ⟨o18, g_o18, h⟩ := bd h
                refine j_gR C dX5_flat_52 fl_RX5_77 rfl g_o18 ?_
                obtain ⟨v19, g_v19, h⟩ := bd h
                refine j_gI C dX5_flat_55 fl_RX5_110 (Or.inl rfl) g_v19 (fun hv19 => ?_)
                obtain ⟨c22, h⟩ := gd_some h
                rcases cI_some h with ⟨S20, v21, wv21, hc, h⟩ | ⟨hc, hne⟩
                · refine j_callI C (run_W (As := [iv v19]) (rest := [rf b o2]) C (m_X1_addNets hst hv19 hc) cv_RX5_168 (by decide) rfl c22 rfl hl (by simp [cat_iv, cat_rf]) (by decide) (by decide) dX5_flat_58) (fun hv21 => ?_)
                  refine j_aload_n C dX5_flat_61 rfl (hl.at 1 rfl) ?_
                  obtain ⟨o23, g_o23, h⟩ := bd h
                  refine j_gR C dX5_flat_62 fl_RX5_29 rfl g_o23 ?_
                  refine j_iconst C dX5_flat_65 ?_
                  rcases cV_some h with ⟨S24, y25, hc, h⟩ | ⟨hc, hne⟩
                  · refine j_callV C (run_S (As := [rf b o2, iv v21, rf b o23, iv 0]) (rest := []) C (m_X5_layOut hst 30 hv21 (by decide) hc) cs_RX5_172 rfl hl.1.1 (by decide) (by decide) (by decide) dX5_flat_66) ?_
                    refine j_aload_n C dX5_flat_69 rfl (hl.at 1 rfl) ?_
                    obtain ⟨o26, g_o26, h⟩ := bd h
                    refine j_gR C dX5_flat_70 fl_RX5_29 rfl g_o26 ?_
                    obtain ⟨c29, h⟩ := gd_some h
                    rcases cI_some h with ⟨S27, v28, wv28, hc, h⟩ | ⟨hc, hne⟩
                    · refine j_callI C (run_W (As := []) (rest := []) C (m_X1_numberNets hst hc) cv_RX5_176 (by decide) rfl c29 rfl hl (by decide) (by decide) (by decide) dX5_flat_73) (fun hv28 => ?_)
                      refine k_istore_n (lv' := [(3, iv v28), (2, rf b o2), (0, rf b a0), (1, iv x1)]) C dX5_flat_76 rfl hl (by decide) rfl (fun ls hl => ?_)
                      refine j_iload_n C dX5_flat_77 rfl (hl.at 0 rfl) ?_
                      refine j_sipush (x := 128) C dX5_flat_78 (by decide) ?_
                      refine j_icmp_le (tgt := 92) C dX5_flat_81 (by decide) hv28 (by decide) (fun b1 => ?_) (fun b1 => ?_)
                      · rw [if_pos b1] at h
                        refine j_aload_n C dX5_flat_92 rfl (hl.at 2 rfl) ?_
                        refine j_aload_n C dX5_flat_93 rfl (hl.at 2 rfl) ?_
                        obtain ⟨o30, g_o30, h⟩ := bd h
                        refine j_gR C dX5_flat_94 fl_RX5_29 rfl g_o30 ?_
                        refine j_aload_n C dX5_flat_97 rfl (hl.at 1 rfl) ?_
                        refine j_iload_n C dX5_flat_98 rfl (hl.at 0 rfl) ?_
                        obtain ⟨c33, h⟩ := gd_some h
                        rcases cR_some h with ⟨S31, wo32, o32, hc, h⟩ | ⟨hc, hne⟩
                        · refine j_callR C (run_W (As := [rf b o2, iv v28]) (rest := [rf b a0]) C (m_X1_insideFor hst hv28 hc) cv_RX5_179 (by decide) rfl c33 rfl hl (by simp [cat_iv, cat_rf]) (by decide) (by decide) dX5_flat_99) ?_
                          obtain ⟨c36, h⟩ := gd_some h
                          rcases cR_some h with ⟨S34, wo35, o35, hc, h⟩ | ⟨hc, hne⟩
                          · refine j_callR C (run_W (As := [rf b o32]) (rest := []) C (m_X5_addShell hst hc) cv_RX5_49 (by decide) rfl c36 rfl hl (by decide) (by decide) (by decide) dX5_flat_102) ?_
                            refine k_astore (lv' := [(4, rf b o35), (3, iv v28), (2, rf b o2), (0, rf b a0), (1, iv x1)]) C dX5_flat_105 hl (by decide) rfl (fun ls hl => ?_)
                            refine j_aload C dX5_flat_107 (hl.at 0 rfl) ?_
                            refine j_aload_n C dX5_flat_109 rfl (hl.at 2 rfl) ?_
                            obtain ⟨c39, h⟩ := gd_some h
                            rcases cV_some h with ⟨S37, y38, hc, h⟩ | ⟨hc, hne⟩
                            · refine j_callV C (run_W (As := [rf b o2]) (rest := []) C (m_X4_takePorts hst hc) cv_RX5_151 (by decide) rfl c39 rfl hl (by decide) (by decide) (by decide) dX5_flat_110) ?_
                              refine j_aload C dX5_flat_113 (hl.at 0 rfl) ?_
                              obtain ⟨v40, g_v40, h⟩ := bd h
                              refine j_gI C dX5_flat_115 fl_RX5_53 (Or.inl rfl) g_v40 (fun hv40 => ?_)
                              exact j_iret C dX5_flat_118 hr hv40 h
                            · exact j_thrown C hT (run_W (As := [rf b o2]) (rest := []) C (m_X4_takePorts hst hc) cv_RX5_151 (by decide) rfl c39 rfl hl (by decide) (by decide) (by decide) dX5_flat_110) hne
                          · exact j_thrown C hT (run_W (As := [rf b o32]) (rest := []) C (m_X5_addShell hst hc) cv_RX5_49 (by decide) rfl c36 rfl hl (by decide) (by decide) (by decide) dX5_flat_102) hne
                        · exact j_thrown C hT (run_W (As := [rf b o2, iv v28]) (rest := [rf b a0]) C (m_X1_insideFor hst hv28 hc) cv_RX5_179 (by decide) rfl c33 rfl hl (by simp [cat_iv, cat_rf]) (by decide) (by decide) dX5_flat_99) hne
                      · rw [if_neg b1] at h
                        exact j_throw C hT tw_RX5_162 dX5_flat_84 dX5_flat_87 dX5_flat_88 dX5_flat_91 hl.1.1 (by decide) (by decide) h
                    · exact j_thrown C hT (run_W (As := []) (rest := []) C (m_X1_numberNets hst hc) cv_RX5_176 (by decide) rfl c29 rfl hl (by decide) (by decide) (by decide) dX5_flat_73) hne
                  · exact j_thrown C hT (run_S (As := [rf b o2, iv v21, rf b o23, iv 0]) (rest := []) C (m_X5_layOut hst 30 hv21 (by decide) hc) cs_RX5_172 rfl hl.1.1 (by decide) (by decide) (by decide) dX5_flat_66) hne
                · exact j_thrown C hT (run_W (As := [iv v19]) (rest := [rf b o2]) C (m_X1_addNets hst hv19 hc) cv_RX5_168 (by decide) rfl c22 rfl hl (by simp [cat_iv, cat_rf]) (by decide) (by decide) dX5_flat_58) hne
              · exact j_thrown C hT (run_W (As := []) (rest := []) C (m_X1_restart hst hc) cv_RX5_165 (by decide) rfl c16 rfl hl (by decide) (by decide) (by decide) dX5_flat_43) hne
            · rw [if_neg b1] at h
              exact j_throw C hT tw_RX5_162 dX5_flat_31 dX5_flat_34 dX5_flat_35 dX5_flat_38 hl.1.1 (by decide) (by decide) h
          · exact j_thrown C hT (run_W (As := [rf b o2]) (rest := []) C (m_X5_netsOfOccurrences hst hc) cv_RX5_159 (by decide) rfl c12 rfl hl (by decide) (by decide) (by decide) dX5_flat_22) hne
      · exact j_thrown C hT (run_W (As := [rf b o2]) (rest := []) C (m_X5_leavesIn hst hc) cv_RX5_155 (by decide) rfl c9 rfl hl (by decide) (by decide) (by decide) dX5_flat_12) hne
    · exact j_thrown C hT (run_W (As := []) (rest := []) C (m_X5_requireRoomForModule hst hc) cv_RX5_43 (by decide) rfl c6 rfl hl (by decide) (by decide) (by decide) dX5_flat_7) hne
  · exact j_thrown C hT (run_W (As := [iv x1]) (rest := []) C (m_X5_shellAt hst hx1 hc) cv_RX5_56 (by decide) rfl c3 rfl hl (by decide) (by decide) (by decide) dX5_flat_2) hne
noncomputable def f_X5_path (a0 : Option Nat) (x1 : Int) (x2 : Int) (x3 : Int) (S : AS) : Option RS :=
  gd (isK S a0 6) <|
  cR (f_X5_shellAt a0 x1 S) fun o2 S1 =>
  cR (f_X5_placementAt o2 x2 S1) fun o5 S4 =>
  (gR S4 o5 4 1).bind fun o6 =>
  if 0 ≤ x3 then
    (ln S4 o6 8).bind fun v7 =>
    if v7 ≤ x3 then
      rI (-1) S4
    else
      (aI S4 o6 8 x3).bind fun v8 =>
      rI v8 S4
  else
    rX 1 S4
set_option maxHeartbeats 4000000 in
set_option maxRecDepth 100000 in
theorem m_X5_path {l : Launch} {b : Nat} {D : va_G} {dA : Nat → ClassId} (hst : l.stackTraces = false) {a0 : Option Nat} {x1 : Int} {x2 : Int} {x3 : Int} {S : AS} {q : RS} (hx1 : inR x1) (hx2 : inR x2) (hx3 : inR x3) (h : f_X5_path a0 x1 x2 x3 S = some q) : hp_M l b D dA yX5_path cX5_path 5 (some .int) 8 131 [rf b a0, iv x1, iv x2, iv x3] S 1 q := by
  have hcat : ∀ v ∈ ([rf b a0, iv x1, iv x2, iv x3] : List Value), v.category = 1 := (by intro v hv; simp only [List.mem_cons, List.not_mem_nil, or_false] at hv; rcases hv with rfl | rfl | rfl | rfl <;> first | exact cat_iv _ | exact cat_rf _ _)
  refine hp_ofJ (own := RX5) hst (by decide +kernel) rfl hcat (Nat.le_of_ble_eq_true rfl) ?_
  intro p e R s m args below meth c C hT hnm hr ls hl9
  have hl : hp_L ls 5 [(0, rf b a0), (1, iv x1), (2, iv x2), (3, iv x3)] := hp_L.of hl9 hcat
  unfold f_X5_path at h
  refine j_aload_n C dX5_path_0 rfl (hl.at 0 rfl) ?_
  refine j_iload_n C dX5_path_1 rfl (hl.at 1 rfl) ?_
  obtain ⟨c3, h⟩ := gd_some h
  rcases cR_some h with ⟨S1, wo2, o2, hc, h⟩ | ⟨hc, hne⟩
  · refine j_callR C (run_W (As := [iv x1]) (rest := []) C (m_X5_shellAt hst hx1 hc) cv_RX5_56 (by decide) rfl c3 rfl hl (by decide) (by decide) (by decide) dX5_path_2) ?_
    refine j_iload_n C dX5_path_5 rfl (hl.at 2 rfl) ?_
    rcases cR_some h with ⟨S4, wo5, o5, hc, h⟩ | ⟨hc, hne⟩
    · refine j_callR C (run_S (As := [rf b o2, iv x2]) (rest := []) C (m_X5_placementAt hst hx2 hc) cs_RX5_183 rfl hl.1.1 (by decide) (by decide) (by decide) dX5_path_6) ?_
      obtain ⟨o6, g_o6, h⟩ := bd h
      refine j_gR C dX5_path_9 fl_RX5_187 rfl g_o6 ?_
      refine k_astore (lv' := [(4, rf b o6), (0, rf b a0), (1, iv x1), (2, iv x2), (3, iv x3)]) C dX5_path_12 hl (by decide) rfl (fun ls hl => ?_)
      refine j_iload_n C dX5_path_14 rfl (hl.at 4 rfl) ?_
      refine j_if_ge (tgt := 26) C dX5_path_15 (by decide) hx3 (fun b1 => ?_) (fun b1 => ?_)
      · rw [if_pos b1] at h
        refine j_iload_n C dX5_path_26 rfl (hl.at 4 rfl) ?_
        refine j_aload C dX5_path_27 (hl.at 0 rfl) ?_
        obtain ⟨v7, g_v7, h⟩ := bd h
        refine j_alen C dX5_path_29 (by decide) g_v7 (fun hv7 => ?_)
        refine j_icmp_ge (tgt := 40) C dX5_path_30 (by decide) hx3 hv7 (fun b1 => ?_) (fun b1 => ?_)
        · rw [if_pos b1] at h
          refine j_iconst C dX5_path_40 ?_
          exact j_iret C dX5_path_41 hr (by decide) h
        · rw [if_neg b1] at h
          refine j_aload C dX5_path_33 (hl.at 0 rfl) ?_
          refine j_iload_n C dX5_path_35 rfl (hl.at 4 rfl) ?_
          obtain ⟨v8, g_v8, h⟩ := bd h
          refine j_iald C dX5_path_36 hx3 g_v8 (fun hv8 => ?_)
          refine j_goto (tgt := 41) C dX5_path_37 (by decide) ?_
          exact j_iret C dX5_path_41 hr hv8 h
      · rw [if_neg b1] at h
        exact j_throw C hT tw_RX5_141 dX5_path_18 dX5_path_21 dX5_path_22 dX5_path_25 hl.1.1 (by decide) (by decide) h
    · exact j_thrown C hT (run_S (As := [rf b o2, iv x2]) (rest := []) C (m_X5_placementAt hst hx2 hc) cs_RX5_183 rfl hl.1.1 (by decide) (by decide) (by decide) dX5_path_6) hne
  · exact j_thrown C hT (run_W (As := [iv x1]) (rest := []) C (m_X5_shellAt hst hx1 hc) cv_RX5_56 (by decide) rfl c3 rfl hl (by decide) (by decide) (by decide) dX5_path_2) hne
noncomputable def f_X5_doubled (a0 : Option Nat) (x1 : Int) (x2 : Int) (S : AS) : Option RS :=
  gd (isK S a0 6) <|
  cR (f_X5_shellAt a0 x1 S) fun o2 S1 =>
  gd (isK S1 a0 6) <|
  cI (f_X5_tallied a0 o2 x2 1 S1) fun v5 S4 =>
  rI v5 S4
set_option maxHeartbeats 4000000 in
set_option maxRecDepth 100000 in
theorem m_X5_doubled {l : Launch} {b : Nat} {D : va_G} {dA : Nat → ClassId} (hst : l.stackTraces = false) {a0 : Option Nat} {x1 : Int} {x2 : Int} {S : AS} {q : RS} (hx1 : inR x1) (hx2 : inR x2) (h : f_X5_doubled a0 x1 x2 S = some q) : hp_M l b D dA yX5_doubled cX5_doubled 3 (some .int) 9 131 [rf b a0, iv x1, iv x2] S 1 q := by
  have hcat : ∀ v ∈ ([rf b a0, iv x1, iv x2] : List Value), v.category = 1 := (by intro v hv; simp only [List.mem_cons, List.not_mem_nil, or_false] at hv; rcases hv with rfl | rfl | rfl <;> first | exact cat_iv _ | exact cat_rf _ _)
  refine hp_ofJ (own := RX5) hst (by decide +kernel) rfl hcat (Nat.le_of_ble_eq_true rfl) ?_
  intro p e R s m args below meth c C hT hnm hr ls hl9
  have hl : hp_L ls 3 [(0, rf b a0), (1, iv x1), (2, iv x2)] := hp_L.of hl9 hcat
  unfold f_X5_doubled at h
  refine j_aload_n C dX5_doubled_0 rfl (hl.at 0 rfl) ?_
  refine j_aload_n C dX5_doubled_1 rfl (hl.at 0 rfl) ?_
  refine j_iload_n C dX5_doubled_2 rfl (hl.at 1 rfl) ?_
  obtain ⟨c3, h⟩ := gd_some h
  rcases cR_some h with ⟨S1, wo2, o2, hc, h⟩ | ⟨hc, hne⟩
  · refine j_callR C (run_W (As := [iv x1]) (rest := [rf b a0]) C (m_X5_shellAt hst hx1 hc) cv_RX5_56 (by decide) rfl c3 rfl hl (by simp [cat_iv, cat_rf]) (by decide) (by decide) dX5_doubled_3) ?_
    refine j_iload_n C dX5_doubled_6 rfl (hl.at 2 rfl) ?_
    refine j_iconst C dX5_doubled_7 ?_
    obtain ⟨c6, h⟩ := gd_some h
    rcases cI_some h with ⟨S4, v5, wv5, hc, h⟩ | ⟨hc, hne⟩
    · refine j_callI C (run_W (As := [rf b o2, iv x2, iv 1]) (rest := []) C (m_X5_tallied hst hx2 (by decide) hc) cv_RX5_190 (by decide) rfl c6 rfl hl (by decide) (by decide) (by decide) dX5_doubled_8) (fun hv5 => ?_)
      exact j_iret C dX5_doubled_11 hr hv5 h
    · exact j_thrown C hT (run_W (As := [rf b o2, iv x2, iv 1]) (rest := []) C (m_X5_tallied hst hx2 (by decide) hc) cv_RX5_190 (by decide) rfl c6 rfl hl (by decide) (by decide) (by decide) dX5_doubled_8) hne
  · exact j_thrown C hT (run_W (As := [iv x1]) (rest := [rf b a0]) C (m_X5_shellAt hst hx1 hc) cv_RX5_56 (by decide) rfl c3 rfl hl (by simp [cat_iv, cat_rf]) (by decide) (by decide) dX5_doubled_3) hne
noncomputable def f_X5_open (a0 : Option Nat) (x1 : Int) (x2 : Int) (S : AS) : Option RS :=
  gd (isK S a0 6) <|
  cR (f_X5_shellAt a0 x1 S) fun o2 S1 =>
  gd (isK S1 a0 6) <|
  cI (f_X5_tallied a0 o2 x2 0 S1) fun v5 S4 =>
  rI v5 S4
set_option maxHeartbeats 4000000 in
set_option maxRecDepth 100000 in
theorem m_X5_open {l : Launch} {b : Nat} {D : va_G} {dA : Nat → ClassId} (hst : l.stackTraces = false) {a0 : Option Nat} {x1 : Int} {x2 : Int} {S : AS} {q : RS} (hx1 : inR x1) (hx2 : inR x2) (h : f_X5_open a0 x1 x2 S = some q) : hp_M l b D dA yX5_open cX5_open 3 (some .int) 9 131 [rf b a0, iv x1, iv x2] S 1 q := by
  have hcat : ∀ v ∈ ([rf b a0, iv x1, iv x2] : List Value), v.category = 1 := (by intro v hv; simp only [List.mem_cons, List.not_mem_nil, or_false] at hv; rcases hv with rfl | rfl | rfl <;> first | exact cat_iv _ | exact cat_rf _ _)
  refine hp_ofJ (own := RX5) hst (by decide +kernel) rfl hcat (Nat.le_of_ble_eq_true rfl) ?_
  intro p e R s m args below meth c C hT hnm hr ls hl9
  have hl : hp_L ls 3 [(0, rf b a0), (1, iv x1), (2, iv x2)] := hp_L.of hl9 hcat
  unfold f_X5_open at h
  refine j_aload_n C dX5_open_0 rfl (hl.at 0 rfl) ?_
  refine j_aload_n C dX5_open_1 rfl (hl.at 0 rfl) ?_
  refine j_iload_n C dX5_open_2 rfl (hl.at 1 rfl) ?_
  obtain ⟨c3, h⟩ := gd_some h
  rcases cR_some h with ⟨S1, wo2, o2, hc, h⟩ | ⟨hc, hne⟩
  · refine j_callR C (run_W (As := [iv x1]) (rest := [rf b a0]) C (m_X5_shellAt hst hx1 hc) cv_RX5_56 (by decide) rfl c3 rfl hl (by simp [cat_iv, cat_rf]) (by decide) (by decide) dX5_open_3) ?_
    refine j_iload_n C dX5_open_6 rfl (hl.at 2 rfl) ?_
    refine j_iconst C dX5_open_7 ?_
    obtain ⟨c6, h⟩ := gd_some h
    rcases cI_some h with ⟨S4, v5, wv5, hc, h⟩ | ⟨hc, hne⟩
    · refine j_callI C (run_W (As := [rf b o2, iv x2, iv 0]) (rest := []) C (m_X5_tallied hst hx2 (by decide) hc) cv_RX5_190 (by decide) rfl c6 rfl hl (by decide) (by decide) (by decide) dX5_open_8) (fun hv5 => ?_)
      exact j_iret C dX5_open_11 hr hv5 h
    · exact j_thrown C hT (run_W (As := [rf b o2, iv x2, iv 0]) (rest := []) C (m_X5_tallied hst hx2 (by decide) hc) cv_RX5_190 (by decide) rfl c6 rfl hl (by decide) (by decide) (by decide) dX5_open_8) hne
  · exact j_thrown C hT (run_W (As := [iv x1]) (rest := [rf b a0]) C (m_X5_shellAt hst hx1 hc) cv_RX5_56 (by decide) rfl c3 rfl hl (by simp [cat_iv, cat_rf]) (by decide) (by decide) dX5_open_3) hne
noncomputable def f_X5_alike (a0 : Option Nat) (x1 : Int) (x2 : Int) (S : AS) : Option RS :=
  gd (isK S a0 6) <|
  cR (f_X5_shellAt a0 x1 S) fun o2 S1 =>
  gd (isK S1 a0 6) <|
  cR (f_X5_shellAt a0 x2 S1) fun o5 S4 =>
  (gR S4 a0 6 2).bind fun o7 =>
  gd (isK S4 o7 3) <|
  cV (f_X2_restart o7 S4) fun S8 =>
  (gR S8 a0 6 2).bind fun o11 =>
  cV (f_X5_putBehindParts 30 o2 o11 0 S8) fun S12 =>
  (gR S12 a0 6 2).bind fun o14 =>
  cV (f_X5_putBehindParts 30 o5 o14 0 S12) fun S15 =>
  gd (isK S15 a0 6) <|
  cI (f_X5_sortIntoKinds a0 S15) fun v18 S17 =>
  (gR S17 a0 6 4).bind fun o20 =>
  (gI S17 o2 5 0).bind fun v21 =>
  (aI S17 o20 8 v21).bind fun v22 =>
  (gR S17 a0 6 4).bind fun o23 =>
  (gI S17 o5 5 0).bind fun v24 =>
  (aI S17 o23 8 v24).bind fun v25 =>
  if v22 = v25 then
    rZ 1 S17
  else
    rZ 0 S17
set_option maxHeartbeats 4000000 in
set_option maxRecDepth 100000 in
theorem m_X5_alike {l : Launch} {b : Nat} {D : va_G} {dA : Nat → ClassId} (hst : l.stackTraces = false) {a0 : Option Nat} {x1 : Int} {x2 : Int} {S : AS} {q : RS} (hx1 : inR x1) (hx2 : inR x2) (h : f_X5_alike a0 x1 x2 S = some q) : hp_M l b D dA yX5_alike cX5_alike 5 (some .boolean) 38 780 [rf b a0, iv x1, iv x2] S 1 q := by
  have hcat : ∀ v ∈ ([rf b a0, iv x1, iv x2] : List Value), v.category = 1 := (by intro v hv; simp only [List.mem_cons, List.not_mem_nil, or_false] at hv; rcases hv with rfl | rfl | rfl <;> first | exact cat_iv _ | exact cat_rf _ _)
  refine hp_ofJ (own := RX5) hst (by decide +kernel) rfl hcat (Nat.le_of_ble_eq_true rfl) ?_
  intro p e R s m args below meth c C hT hnm hr ls hl9
  have hl : hp_L ls 5 [(0, rf b a0), (1, iv x1), (2, iv x2)] := hp_L.of hl9 hcat
  unfold f_X5_alike at h
  refine j_aload_n C dX5_alike_0 rfl (hl.at 0 rfl) ?_
  refine j_iload_n C dX5_alike_1 rfl (hl.at 1 rfl) ?_
  obtain ⟨c3, h⟩ := gd_some h
  rcases cR_some h with ⟨S1, wo2, o2, hc, h⟩ | ⟨hc, hne⟩
  · refine j_callR C (run_W (As := [iv x1]) (rest := []) C (m_X5_shellAt hst hx1 hc) cv_RX5_56 (by decide) rfl c3 rfl hl (by decide) (by decide) (by decide) dX5_alike_2) ?_
    refine k_astore_n (lv' := [(3, rf b o2), (0, rf b a0), (1, iv x1), (2, iv x2)]) C dX5_alike_5 rfl hl (by decide) rfl (fun ls hl => ?_)
    refine j_aload_n C dX5_alike_6 rfl (hl.at 1 rfl) ?_
    refine j_iload_n C dX5_alike_7 rfl (hl.at 3 rfl) ?_
    obtain ⟨c6, h⟩ := gd_some h
    rcases cR_some h with ⟨S4, wo5, o5, hc, h⟩ | ⟨hc, hne⟩
    · refine j_callR C (run_W (As := [iv x2]) (rest := []) C (m_X5_shellAt hst hx2 hc) cv_RX5_56 (by decide) rfl c6 rfl hl (by decide) (by decide) (by decide) dX5_alike_8) ?_
      refine k_astore (lv' := [(4, rf b o5), (3, rf b o2), (0, rf b a0), (1, iv x1), (2, iv x2)]) C dX5_alike_11 hl (by decide) rfl (fun ls hl => ?_)
      refine j_aload_n C dX5_alike_13 rfl (hl.at 2 rfl) ?_
      obtain ⟨o7, g_o7, h⟩ := bd h
      refine j_gR C dX5_alike_14 fl_RX5_22 rfl g_o7 ?_
      obtain ⟨c10, h⟩ := gd_some h
      rcases cV_some h with ⟨S8, y9, hc, h⟩ | ⟨hc, hne⟩
      · refine j_callV C (run_W (As := []) (rest := []) C (m_X2_restart hst hc) cv_RX5_194 (by decide) rfl c10 rfl hl (by decide) (by decide) (by decide) dX5_alike_17) ?_
        refine j_aload_n C dX5_alike_20 rfl (hl.at 1 rfl) ?_
        refine j_aload_n C dX5_alike_21 rfl (hl.at 2 rfl) ?_
        obtain ⟨o11, g_o11, h⟩ := bd h
        refine j_gR C dX5_alike_22 fl_RX5_22 rfl g_o11 ?_
        refine j_iconst C dX5_alike_25 ?_
        rcases cV_some h with ⟨S12, y13, hc, h⟩ | ⟨hc, hne⟩
        · refine j_callV C (run_S (As := [rf b o2, rf b o11, iv 0]) (rest := []) C (m_X5_putBehindParts hst 30 (by decide) hc) cs_RX5_195 rfl hl.1.1 (by decide) (by decide) (by decide) dX5_alike_26) ?_
          refine j_aload C dX5_alike_29 (hl.at 0 rfl) ?_
          refine j_aload_n C dX5_alike_31 rfl (hl.at 2 rfl) ?_
          obtain ⟨o14, g_o14, h⟩ := bd h
          refine j_gR C dX5_alike_32 fl_RX5_22 rfl g_o14 ?_
          refine j_iconst C dX5_alike_35 ?_
          rcases cV_some h with ⟨S15, y16, hc, h⟩ | ⟨hc, hne⟩
          · refine j_callV C (run_S (As := [rf b o5, rf b o14, iv 0]) (rest := []) C (m_X5_putBehindParts hst 30 (by decide) hc) cs_RX5_195 rfl hl.1.1 (by decide) (by decide) (by decide) dX5_alike_36) ?_
            refine j_aload_n C dX5_alike_39 rfl (hl.at 2 rfl) ?_
            obtain ⟨c19, h⟩ := gd_some h
            rcases cI_some h with ⟨S17, v18, wv18, hc, h⟩ | ⟨hc, hne⟩
            · refine j_callI C (run_W (As := []) (rest := []) C (m_X5_sortIntoKinds hst hc) cv_RX5_199 (by decide) rfl c19 rfl hl (by decide) (by decide) (by decide) dX5_alike_40) (fun hv18 => ?_)
              refine j_pop C dX5_alike_43 (cat_iv _) ?_
              refine j_aload_n C dX5_alike_44 rfl (hl.at 2 rfl) ?_
              obtain ⟨o20, g_o20, h⟩ := bd h
              refine j_gR C dX5_alike_45 fl_RX5_33 rfl g_o20 ?_
              refine j_aload_n C dX5_alike_48 rfl (hl.at 1 rfl) ?_
              obtain ⟨v21, g_v21, h⟩ := bd h
              refine j_gI C dX5_alike_49 fl_RX5_53 (Or.inl rfl) g_v21 (fun hv21 => ?_)
              obtain ⟨v22, g_v22, h⟩ := bd h
              refine j_iald C dX5_alike_52 hv21 g_v22 (fun hv22 => ?_)
              refine j_aload_n C dX5_alike_53 rfl (hl.at 2 rfl) ?_
              obtain ⟨o23, g_o23, h⟩ := bd h
              refine j_gR C dX5_alike_54 fl_RX5_33 rfl g_o23 ?_
              refine j_aload C dX5_alike_57 (hl.at 0 rfl) ?_
              obtain ⟨v24, g_v24, h⟩ := bd h
              refine j_gI C dX5_alike_59 fl_RX5_53 (Or.inl rfl) g_v24 (fun hv24 => ?_)
              obtain ⟨v25, g_v25, h⟩ := bd h
              refine j_iald C dX5_alike_62 hv24 g_v25 (fun hv25 => ?_)
              refine j_icmp_ne (tgt := 70) C dX5_alike_63 (by decide) hv22 hv25 (fun b1 => ?_) (fun b1 => ?_)
              · rw [if_neg b1] at h
                refine j_iconst C dX5_alike_70 ?_
                exact j_zret C dX5_alike_71 hr h
              · rw [if_pos (Decidable.byContradiction b1)] at h
                refine j_iconst C dX5_alike_66 ?_
                refine j_goto (tgt := 71) C dX5_alike_67 (by decide) ?_
                exact j_zret C dX5_alike_71 hr h
            · exact j_thrown C hT (run_W (As := []) (rest := []) C (m_X5_sortIntoKinds hst hc) cv_RX5_199 (by decide) rfl c19 rfl hl (by decide) (by decide) (by decide) dX5_alike_40) hne
          · exact j_thrown C hT (run_S (As := [rf b o5, rf b o14, iv 0]) (rest := []) C (m_X5_putBehindParts hst 30 (by decide) hc) cs_RX5_195 rfl hl.1.1 (by decide) (by decide) (by decide) dX5_alike_36) hne
        · exact j_thrown C hT (run_S (As := [rf b o2, rf b o11, iv 0]) (rest := []) C (m_X5_putBehindParts hst 30 (by decide) hc) cs_RX5_195 rfl hl.1.1 (by decide) (by decide) (by decide) dX5_alike_26) hne
      · exact j_thrown C hT (run_W (As := []) (rest := []) C (m_X2_restart hst hc) cv_RX5_194 (by decide) rfl c10 rfl hl (by decide) (by decide) (by decide) dX5_alike_17) hne
    · exact j_thrown C hT (run_W (As := [iv x2]) (rest := []) C (m_X5_shellAt hst hx2 hc) cv_RX5_56 (by decide) rfl c6 rfl hl (by decide) (by decide) (by decide) dX5_alike_8) hne
  · exact j_thrown C hT (run_W (As := [iv x1]) (rest := []) C (m_X5_shellAt hst hx1 hc) cv_RX5_56 (by decide) rfl c3 rfl hl (by decide) (by decide) (by decide) dX5_alike_2) hne
noncomputable def f_X5_count (a0 : Option Nat) (x1 : Int) (x2 : Int) (S : AS) : Option RS :=
  gd (isK S a0 6) <|
  cR (f_X5_shellAt a0 x1 S) fun o2 S1 =>
  if x2 = 0 then
    (gI S1 o2 5 3).bind fun v4 =>
    rI v4 S1
  else
  if x2 = 1 then
    (gR S1 o2 5 6).bind fun o5 =>
    (gI S1 o5 1 2).bind fun v6 =>
    rI v6 S1
  else
  if x2 = 2 then
    (gR S1 o2 5 6).bind fun o7 =>
    (gI S1 o7 1 3).bind fun v8 =>
    rI v8 S1
  else
  if x2 = 3 then
    (gI S1 o2 5 4).bind fun v9 =>
    rI v9 S1
  else
  if x2 = 4 then
    gd (isK S1 a0 6) <|
    cI (f_X5_layersBelow a0 o2 S1) fun v11 S10 =>
    rI v11 S10
  else
  if x2 = 5 then
    gd (isK S1 a0 6) <|
    cI (f_X5_leavesIn a0 o2 S1) fun v14 S13 =>
    rI v14 S13
  else
  rX 1 S1
set_option maxHeartbeats 4000000 in
set_option maxRecDepth 100000 in
theorem m_X5_count {l : Launch} {b : Nat} {D : va_G} {dA : Nat → ClassId} (hst : l.stackTraces = false) {a0 : Option Nat} {x1 : Int} {x2 : Int} {S : AS} {q : RS} (hx1 : inR x1) (hx2 : inR x2) (h : f_X5_count a0 x1 x2 S = some q) : hp_M l b D dA yX5_count cX5_count 4 (some .int) 40 826 [rf b a0, iv x1, iv x2] S 1 q := by
  have hcat : ∀ v ∈ ([rf b a0, iv x1, iv x2] : List Value), v.category = 1 := (by intro v hv; simp only [List.mem_cons, List.not_mem_nil, or_false] at hv; rcases hv with rfl | rfl | rfl <;> first | exact cat_iv _ | exact cat_rf _ _)
  refine hp_ofJ (own := RX5) hst (by decide +kernel) rfl hcat (Nat.le_of_ble_eq_true rfl) ?_
  intro p e R s m args below meth c C hT hnm hr ls hl9
  have hl : hp_L ls 4 [(0, rf b a0), (1, iv x1), (2, iv x2)] := hp_L.of hl9 hcat
  unfold f_X5_count at h
  refine j_aload_n C dX5_count_0 rfl (hl.at 0 rfl) ?_
  refine j_iload_n C dX5_count_1 rfl (hl.at 1 rfl) ?_
  obtain ⟨c3, h⟩ := gd_some h
  rcases cR_some h with ⟨S1, wo2, o2, hc, h⟩ | ⟨hc, hne⟩
  · refine j_callR C (run_W (As := [iv x1]) (rest := []) C (m_X5_shellAt hst hx1 hc) cv_RX5_56 (by decide) rfl c3 rfl hl (by decide) (by decide) (by decide) dX5_count_2) ?_
    refine k_astore_n (lv' := [(3, rf b o2), (0, rf b a0), (1, iv x1), (2, iv x2)]) C dX5_count_5 rfl hl (by decide) rfl (fun ls hl => ?_)
    refine j_iload_n C dX5_count_6 rfl (hl.at 3 rfl) ?_
    by_cases b0 : x2 = 0
    · rw [if_pos b0] at h
      refine j_tabIn (tgt := 44) C dX5_count_7 hx2 b0 (by decide) (by decide) rfl (by decide) ?_
      refine j_aload_n C dX5_count_44 rfl (hl.at 0 rfl) ?_
      obtain ⟨v4, g_v4, h⟩ := bd h
      refine j_gI C dX5_count_45 fl_RX5_60 (Or.inl rfl) g_v4 (fun hv4 => ?_)
      exact j_iret C dX5_count_48 hr hv4 h
    rw [if_neg b0] at h
    by_cases b1 : x2 = 1
    · rw [if_pos b1] at h
      refine j_tabIn (tgt := 49) C dX5_count_7 hx2 b1 (by decide) (by decide) rfl (by decide) ?_
      refine j_aload_n C dX5_count_49 rfl (hl.at 0 rfl) ?_
      obtain ⟨o5, g_o5, h⟩ := bd h
      refine j_gR C dX5_count_50 fl_RX5_77 rfl g_o5 ?_
      obtain ⟨v6, g_v6, h⟩ := bd h
      refine j_gI C dX5_count_53 fl_RX5_81 (Or.inl rfl) g_v6 (fun hv6 => ?_)
      exact j_iret C dX5_count_56 hr hv6 h
    rw [if_neg b1] at h
    by_cases b2 : x2 = 2
    · rw [if_pos b2] at h
      refine j_tabIn (tgt := 57) C dX5_count_7 hx2 b2 (by decide) (by decide) rfl (by decide) ?_
      refine j_aload_n C dX5_count_57 rfl (hl.at 0 rfl) ?_
      obtain ⟨o7, g_o7, h⟩ := bd h
      refine j_gR C dX5_count_58 fl_RX5_77 rfl g_o7 ?_
      obtain ⟨v8, g_v8, h⟩ := bd h
      refine j_gI C dX5_count_61 fl_RX5_110 (Or.inl rfl) g_v8 (fun hv8 => ?_)
      exact j_iret C dX5_count_64 hr hv8 h
    rw [if_neg b2] at h
    by_cases b3 : x2 = 3
    · rw [if_pos b3] at h
      refine j_tabIn (tgt := 65) C dX5_count_7 hx2 b3 (by decide) (by decide) rfl (by decide) ?_
      refine j_aload_n C dX5_count_65 rfl (hl.at 0 rfl) ?_
      obtain ⟨v9, g_v9, h⟩ := bd h
      refine j_gI C dX5_count_66 fl_RX5_92 (Or.inl rfl) g_v9 (fun hv9 => ?_)
      exact j_iret C dX5_count_69 hr hv9 h
    rw [if_neg b3] at h
    by_cases b4 : x2 = 4
    · rw [if_pos b4] at h
      refine j_tabIn (tgt := 70) C dX5_count_7 hx2 b4 (by decide) (by decide) rfl (by decide) ?_
      refine j_aload_n C dX5_count_70 rfl (hl.at 1 rfl) ?_
      refine j_aload_n C dX5_count_71 rfl (hl.at 0 rfl) ?_
      obtain ⟨c12, h⟩ := gd_some h
      rcases cI_some h with ⟨S10, v11, wv11, hc, h⟩ | ⟨hc, hne⟩
      · refine j_callI C (run_W (As := [rf b o2]) (rest := []) C (m_X5_layersBelow hst hc) cv_RX5_202 (by decide) rfl c12 rfl hl (by decide) (by decide) (by decide) dX5_count_72) (fun hv11 => ?_)
        exact j_iret C dX5_count_75 hr hv11 h
      · exact j_thrown C hT (run_W (As := [rf b o2]) (rest := []) C (m_X5_layersBelow hst hc) cv_RX5_202 (by decide) rfl c12 rfl hl (by decide) (by decide) (by decide) dX5_count_72) hne
    rw [if_neg b4] at h
    by_cases b5 : x2 = 5
    · rw [if_pos b5] at h
      refine j_tabIn (tgt := 76) C dX5_count_7 hx2 b5 (by decide) (by decide) rfl (by decide) ?_
      refine j_aload_n C dX5_count_76 rfl (hl.at 1 rfl) ?_
      refine j_aload_n C dX5_count_77 rfl (hl.at 0 rfl) ?_
      obtain ⟨c15, h⟩ := gd_some h
      rcases cI_some h with ⟨S13, v14, wv14, hc, h⟩ | ⟨hc, hne⟩
      · refine j_callI C (run_W (As := [rf b o2]) (rest := []) C (m_X5_leavesIn hst hc) cv_RX5_155 (by decide) rfl c15 rfl hl (by decide) (by decide) (by decide) dX5_count_78) (fun hv14 => ?_)
        exact j_iret C dX5_count_81 hr hv14 h
      · exact j_thrown C hT (run_W (As := [rf b o2]) (rest := []) C (m_X5_leavesIn hst hc) cv_RX5_155 (by decide) rfl c15 rfl hl (by decide) (by decide) (by decide) dX5_count_78) hne
    rw [if_neg b5] at h
    refine j_tabOut (tgt := 82) C dX5_count_7 hx2 (by omega) (by decide) ?_
    exact j_throw C hT tw_RX5_141 dX5_count_82 dX5_count_85 dX5_count_86 dX5_count_89 hl.1.1 (by decide) (by decide) h
  · exact j_thrown C hT (run_W (As := [iv x1]) (rest := []) C (m_X5_shellAt hst hx1 hc) cv_RX5_56 (by decide) rfl c3 rfl hl (by decide) (by decide) (by decide) dX5_count_2) hne
noncomputable def f_X5_moduleOf (a0 : Option Nat) (x1 : Int) (x2 : Int) (S : AS) : Option RS :=
  gd (isK S a0 6) <|
  cR (f_X5_shellAt a0 x1 S) fun o2 S1 =>
  cR (f_X5_placementAt o2 x2 S1) fun o5 S4 =>
  (gR S4 o5 4 0).bind fun o6 =>
  (gI S4 o6 5 0).bind fun v7 =>
  rI v7 S4
set_option maxHeartbeats 4000000 in
set_option maxRecDepth 100000 in
theorem m_X5_moduleOf {l : Launch} {b : Nat} {D : va_G} {dA : Nat → ClassId} (hst : l.stackTraces = false) {a0 : Option Nat} {x1 : Int} {x2 : Int} {S : AS} {q : RS} (hx1 : inR x1) (hx2 : inR x2) (h : f_X5_moduleOf a0 x1 x2 S = some q) : hp_M l b D dA yX5_moduleOf cX5_moduleOf 3 (some .int) 8 131 [rf b a0, iv x1, iv x2] S 1 q := by
  have hcat : ∀ v ∈ ([rf b a0, iv x1, iv x2] : List Value), v.category = 1 := (by intro v hv; simp only [List.mem_cons, List.not_mem_nil, or_false] at hv; rcases hv with rfl | rfl | rfl <;> first | exact cat_iv _ | exact cat_rf _ _)
  refine hp_ofJ (own := RX5) hst (by decide +kernel) rfl hcat (Nat.le_of_ble_eq_true rfl) ?_
  intro p e R s m args below meth c C hT hnm hr ls hl9
  have hl : hp_L ls 3 [(0, rf b a0), (1, iv x1), (2, iv x2)] := hp_L.of hl9 hcat
  unfold f_X5_moduleOf at h
  refine j_aload_n C dX5_moduleOf_0 rfl (hl.at 0 rfl) ?_
  refine j_iload_n C dX5_moduleOf_1 rfl (hl.at 1 rfl) ?_
  obtain ⟨c3, h⟩ := gd_some h
  rcases cR_some h with ⟨S1, wo2, o2, hc, h⟩ | ⟨hc, hne⟩
  · refine j_callR C (run_W (As := [iv x1]) (rest := []) C (m_X5_shellAt hst hx1 hc) cv_RX5_56 (by decide) rfl c3 rfl hl (by decide) (by decide) (by decide) dX5_moduleOf_2) ?_
    refine j_iload_n C dX5_moduleOf_5 rfl (hl.at 2 rfl) ?_
    rcases cR_some h with ⟨S4, wo5, o5, hc, h⟩ | ⟨hc, hne⟩
    · refine j_callR C (run_S (As := [rf b o2, iv x2]) (rest := []) C (m_X5_placementAt hst hx2 hc) cs_RX5_183 rfl hl.1.1 (by decide) (by decide) (by decide) dX5_moduleOf_6) ?_
      obtain ⟨o6, g_o6, h⟩ := bd h
      refine j_gR C dX5_moduleOf_9 fl_RX5_205 rfl g_o6 ?_
      obtain ⟨v7, g_v7, h⟩ := bd h
      refine j_gI C dX5_moduleOf_12 fl_RX5_53 (Or.inl rfl) g_v7 (fun hv7 => ?_)
      exact j_iret C dX5_moduleOf_15 hr hv7 h
    · exact j_thrown C hT (run_S (As := [rf b o2, iv x2]) (rest := []) C (m_X5_placementAt hst hx2 hc) cs_RX5_183 rfl hl.1.1 (by decide) (by decide) (by decide) dX5_moduleOf_6) hne
  · exact j_thrown C hT (run_W (As := [iv x1]) (rest := []) C (m_X5_shellAt hst hx1 hc) cv_RX5_56 (by decide) rfl c3 rfl hl (by decide) (by decide) (by decide) dX5_moduleOf_2) hne
noncomputable def f_X5_modules (a0 : Option Nat) (S : AS) : Option RS :=
  (gI S a0 6 1).bind fun v1 =>
  rI v1 S
set_option maxHeartbeats 4000000 in
set_option maxRecDepth 100000 in
theorem m_X5_modules {l : Launch} {b : Nat} {D : va_G} {dA : Nat → ClassId} (hst : l.stackTraces = false) {a0 : Option Nat} {S : AS} {q : RS} (h : f_X5_modules a0 S = some q) : hp_M l b D dA yX5_modules cX5_modules 1 (some .int) 6 16 [rf b a0] S 1 q := by
  have hcat : ∀ v ∈ ([rf b a0] : List Value), v.category = 1 := (by intro v hv; simp only [List.mem_cons, List.not_mem_nil, or_false] at hv; rcases hv with rfl <;> first | exact cat_iv _ | exact cat_rf _ _)
  refine hp_ofJ (own := RX5) hst (by decide +kernel) rfl hcat (Nat.le_of_ble_eq_true rfl) ?_
  intro p e R s m args below meth c C hT hnm hr ls hl9
  have hl : hp_L ls 1 [(0, rf b a0)] := hp_L.of hl9 hcat
  unfold f_X5_modules at h
  refine j_aload_n C dX5_modules_0 rfl (hl.at 0 rfl) ?_
  obtain ⟨v1, g_v1, h⟩ := bd h
  refine j_gI C dX5_modules_1 fl_RX5_15 (Or.inl rfl) g_v1 (fun hv1 => ?_)
  exact j_iret C dX5_modules_4 hr hv1 h
noncomputable def f_X5_kinds_9 (n : Nat) (a0 : Option Nat) (x1 : Int) (S : AS) : Option RS := match n with
  | 0 => none
  | n + 1 =>
    (gI S a0 6 1).bind fun v1 =>
    if v1 ≤ x1 then
      gd (isK S a0 6) <|
      cI (f_X5_sortIntoKinds a0 S) fun v3 S2 =>
      rI v3 S2
    else
      (gR S a0 6 0).bind fun o5 =>
      (aR S o5 11 x1).bind fun o6 =>
      (gR S a0 6 2).bind fun o7 =>
      cV (f_X5_putBehindParts 30 o6 o7 0 S) fun S8 =>
      (chk (x1 + 1)).bind fun z10 =>
      f_X5_kinds_9 n a0 z10 S8
set_option maxHeartbeats 4000000 in
set_option maxRecDepth 100000 in
theorem w_X5_kinds_9 {p : Program} {l : Launch} {e : Env} {R : Room} {s : State} {m : MethodId} {args : Array Value} {below : List Frame} {meth : Method} {c : Code} {b : Nat} {D : va_G} {dA : Nat → ClassId} {S0 : AS} {q : RS} (C : hp_C p l e R s m args below meth c b D dA S0 RX5 cX5_kinds 2 38 780) (hT : ∀ x ∈ c.exceptionTable.toList, False) (hnm : meth.name = "kinds") (hr : meth.sig.returnType = (some .int)) : ∀ (n : Nat), ∀ (a0 : Option Nat) (x1 : Int) (S : AS), inR x1 → f_X5_kinds_9 n a0 x1 S = some q → ∀ ls : Array Slot, hp_L ls 2 [(0, rf b a0), (1, iv x1)] → hp_J p l e R s m args below meth c b D dA S0 (hp_Q below b D dA S0 1 q args s) S 9 ls [] := by
  have hst : l.stackTraces = false := C.2.2.2.2.2.2.2.2.2.2.1
  intro n
  induction n with
  | zero =>
    intro a0 x1 S hx1 h
    cases h
  | succ n ih =>
    intro a0 x1 S hx1 h ls hl
    unfold f_X5_kinds_9 at h
    refine j_iload_n C dX5_kinds_9 rfl (hl.at 1 rfl) ?_
    refine j_aload_n C dX5_kinds_10 rfl (hl.at 0 rfl) ?_
    obtain ⟨v1, g_v1, h⟩ := bd h
    refine j_gI C dX5_kinds_11 fl_RX5_15 (Or.inl rfl) g_v1 (fun hv1 => ?_)
    refine j_icmp_ge (tgt := 37) C dX5_kinds_14 (by decide) hx1 hv1 (fun b1 => ?_) (fun b1 => ?_)
    · rw [if_pos b1] at h
      refine j_aload_n C dX5_kinds_37 rfl (hl.at 0 rfl) ?_
      obtain ⟨c4, h⟩ := gd_some h
      rcases cI_some h with ⟨S2, v3, wv3, hc, h⟩ | ⟨hc, hne⟩
      · refine j_callI C (run_W (As := []) (rest := []) C (m_X5_sortIntoKinds hst hc) cv_RX5_199 (by decide) rfl c4 rfl hl (by decide) (by decide) (by decide) dX5_kinds_38) (fun hv3 => ?_)
        exact j_iret C dX5_kinds_41 hr hv3 h
      · exact j_thrown C hT (run_W (As := []) (rest := []) C (m_X5_sortIntoKinds hst hc) cv_RX5_199 (by decide) rfl c4 rfl hl (by decide) (by decide) (by decide) dX5_kinds_38) hne
    · rw [if_neg b1] at h
      refine j_aload_n C dX5_kinds_17 rfl (hl.at 0 rfl) ?_
      obtain ⟨o5, g_o5, h⟩ := bd h
      refine j_gR C dX5_kinds_18 fl_RX5_11 rfl g_o5 ?_
      refine j_iload_n C dX5_kinds_21 rfl (hl.at 1 rfl) ?_
      obtain ⟨o6, g_o6, h⟩ := bd h
      refine j_aald C dX5_kinds_22 (by decide) hx1 g_o6 ?_
      refine j_aload_n C dX5_kinds_23 rfl (hl.at 0 rfl) ?_
      obtain ⟨o7, g_o7, h⟩ := bd h
      refine j_gR C dX5_kinds_24 fl_RX5_22 rfl g_o7 ?_
      refine j_iconst C dX5_kinds_27 ?_
      rcases cV_some h with ⟨S8, y9, hc, h⟩ | ⟨hc, hne⟩
      · refine j_callV C (run_S (As := [rf b o6, rf b o7, iv 0]) (rest := []) C (m_X5_putBehindParts hst 30 (by decide) hc) cs_RX5_195 rfl hl.1.1 (by decide) (by decide) (by decide) dX5_kinds_28) ?_
        obtain ⟨z10, g_z10, h⟩ := bd h
        refine k_iinc (k9 := 1) (lv' := [(1, iv z10), (0, rf b a0)]) C dX5_kinds_31 hl rfl g_z10 (by decide) rfl (fun hz10 ls hl => ?_)
        refine j_goto (tgt := 9) C dX5_kinds_34 (by decide) ?_
        exact ih _ _ _ hz10 h ls (hl.sub [1, 0] rfl)
      · exact j_thrown C hT (run_S (As := [rf b o6, rf b o7, iv 0]) (rest := []) C (m_X5_putBehindParts hst 30 (by decide) hc) cs_RX5_195 rfl hl.1.1 (by decide) (by decide) (by decide) dX5_kinds_28) hne
noncomputable def f_X5_kinds (a0 : Option Nat) (S : AS) : Option RS :=
  (gR S a0 6 2).bind fun o1 =>
  gd (isK S o1 3) <|
  cV (f_X2_restart o1 S) fun S2 =>
  f_X5_kinds_9 FU a0 0 S2
set_option maxHeartbeats 4000000 in
set_option maxRecDepth 100000 in
theorem m_X5_kinds {l : Launch} {b : Nat} {D : va_G} {dA : Nat → ClassId} (hst : l.stackTraces = false) {a0 : Option Nat} {S : AS} {q : RS} (h : f_X5_kinds a0 S = some q) : hp_M l b D dA yX5_kinds cX5_kinds 2 (some .int) 38 780 [rf b a0] S 1 q := by
  have hcat : ∀ v ∈ ([rf b a0] : List Value), v.category = 1 := (by intro v hv; simp only [List.mem_cons, List.not_mem_nil, or_false] at hv; rcases hv with rfl <;> first | exact cat_iv _ | exact cat_rf _ _)
  refine hp_ofJ (own := RX5) hst (by decide +kernel) rfl hcat (Nat.le_of_ble_eq_true rfl) ?_
  intro p e R s m args below meth c C hT hnm hr ls hl9
  have hl : hp_L ls 2 [(0, rf b a0)] := hp_L.of hl9 hcat
  unfold f_X5_kinds at h
  refine j_aload_n C dX5_kinds_0 rfl (hl.at 0 rfl) ?_
  obtain ⟨o1, g_o1, h⟩ := bd h
  refine j_gR C dX5_kinds_1 fl_RX5_22 rfl g_o1 ?_
  obtain ⟨c4, h⟩ := gd_some h
  rcases cV_some h with ⟨S2, y3, hc, h⟩ | ⟨hc, hne⟩
  · refine j_callV C (run_W (As := []) (rest := []) C (m_X2_restart hst hc) cv_RX5_194 (by decide) rfl c4 rfl hl (by decide) (by decide) (by decide) dX5_kinds_4) ?_
    refine j_iconst C dX5_kinds_7 ?_
    refine k_istore_n (lv' := [(1, iv 0), (0, rf b a0)]) C dX5_kinds_8 rfl hl (by decide) rfl (fun ls hl => ?_)
    exact w_X5_kinds_9 C hT hnm hr FU _ _ _ (by decide) h ls (hl.sub [1, 0] rfl)
  · exact j_thrown C hT (run_W (As := []) (rest := []) C (m_X2_restart hst hc) cv_RX5_194 (by decide) rfl c4 rfl hl (by decide) (by decide) (by decide) dX5_kinds_4) hne
noncomputable def f_X5_clear (a0 : Option Nat) (S : AS) : Option RS :=
  (pI S a0 6 1 0).bind fun S1 =>
  rV S1
set_option maxHeartbeats 4000000 in
set_option maxRecDepth 100000 in
theorem m_X5_clear {l : Launch} {b : Nat} {D : va_G} {dA : Nat → ClassId} (hst : l.stackTraces = false) {a0 : Option Nat} {S : AS} {q : RS} (h : f_X5_clear a0 S = some q) : hp_M l b D dA yX5_clear cX5_clear 1 none 6 16 [rf b a0] S 0 q := by
  have hcat : ∀ v ∈ ([rf b a0] : List Value), v.category = 1 := (by intro v hv; simp only [List.mem_cons, List.not_mem_nil, or_false] at hv; rcases hv with rfl <;> first | exact cat_iv _ | exact cat_rf _ _)
  refine hp_ofJ (own := RX5) hst (by decide +kernel) rfl hcat (Nat.le_of_ble_eq_true rfl) ?_
  intro p e R s m args below meth c C hT hnm hr ls hl9
  have hl : hp_L ls 1 [(0, rf b a0)] := hp_L.of hl9 hcat
  unfold f_X5_clear at h
  refine j_aload_n C dX5_clear_0 rfl (hl.at 0 rfl) ?_
  refine j_iconst C dX5_clear_1 ?_
  obtain ⟨S1, g_S1, h⟩ := bd h
  refine j_pI C dX5_clear_2 fl_RX5_15 (Or.inl rfl) rfl (by decide) g_S1 ?_
  exact j_vret C dX5_clear_5 hr h
