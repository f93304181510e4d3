noncomputable def f_L_module (a0 : Option Nat) (a1 : Option Nat) (S : AS) : Option RS :=
  gd (isK S a0 6) <|
  cHf (f_X5_module a0 S) (fun k9 S9 => if k9 = 2 then rI 1 S9 else none) fun v2 S1 =>
  (sI S1 a1 13 0 v2).bind fun S4 =>
  rI 0 S4
set_option maxHeartbeats 4000000 in
set_option maxRecDepth 100000 in
theorem m_L_module {l : Launch} {b : Nat} {D : va_G} {dA : Nat → ClassId} (hst : l.stackTraces = false) {a0 : Option Nat} {a1 : Option Nat} {S : AS} {q : RS} (h : f_L_module a0 a1 S = some q) : hp_MW l b D dA yL_module cL_module 3 (some .int) [(0, 8, 11, 13)] 9 129 [rf b a0, rf b a1] S 1 q := by
  have hcat : ∀ v ∈ ([rf b a0, rf b a1] : List Value), v.category = 1 := (by intro v hv; simp only [List.mem_cons, List.not_mem_nil, or_false] at hv; rcases hv with rfl | rfl <;> first | exact cat_iv _ | exact cat_rf _ _)
  refine hp_ofJW (own := RL) hst (by decide +kernel) rfl hcat (Nat.le_of_ble_eq_true rfl) ?_
  intro p e R s m args below meth c C hTb hN hr ls hl9
  have hl : hp_L ls 3 [(0, rf b a0), (1, rf b a1)] := hp_L.of hl9 hcat
  unfold f_L_module at h
  refine j_aload_n C dL_module_0 rfl (hl.at 1 rfl) ?_
  refine j_iconst C dL_module_1 ?_
  refine j_aload_n C dL_module_2 rfl (hl.at 0 rfl) ?_
  obtain ⟨c3, h⟩ := gd_some h
  rcases cH_some h with ⟨S1, v2, wv2, hc, h⟩ | ⟨q9, hc, hne, h⟩
  · refine j_callI C (run_W (As := []) (rest := [iv 0, rf b a1]) C (m_X5_module hst hc) cv_RL_7 (by decide) rfl c3 rfl hl (by simp [cat_iv, cat_rf]) (by decide) (by decide) dL_module_3) (fun hv2 => ?_)
    refine j_i2l C dL_module_6 hv2 ?_
    obtain ⟨S4, g_S4, h⟩ := bd h
    refine j_last C dL_module_7 (by decide) hv2 g_S4 ?_
    refine j_goto (tgt := 14) C dL_module_8 (by decide) ?_
    refine j_iconst C dL_module_14 ?_
    exact j_iret C dL_module_15 hr (by decide) h
  · have hr9 := run_W (As := []) (rest := [iv 0, rf b a1]) C (m_X5_module hst hc) cv_RL_7 (by decide) rfl c3 rfl hl (by simp [cat_iv, cat_rf]) (by decide) (by decide) dL_module_3
    by_cases b0 : q9.1.1 = 2
    · rw [if_pos b0] at h
      refine j_caught C hN hr9 b0 (by decide) [] ⟨0, 8, 11, 13⟩ [] (by rw [hTb]; rfl) (fun z hz => nomatch hz) rfl (by decide) cl_RL_13 (fun q8 => ?_)
      refine k_astX_n (lv' := [(0, rf b a0), (1, rf b a1)]) C dL_module_11 rfl hl (by decide) rfl (fun ls hl => ?_)
      refine j_iconst C dL_module_12 ?_
      exact j_iret C dL_module_13 hr (by decide) h
    rw [if_neg b0] at h
    cases h
noncomputable def f_L_port (a0 : Option Nat) (x1 : Int) (x2 : Int) (x3 : Int) (a4 : Option Nat) (S : AS) : Option RS :=
  gd (isK S a0 6) <|
  cHf (f_X5_port a0 x1 x2 x3 S) (fun k9 S9 => if k9 = 1 then rI 1 S9 else if k9 = 2 then rI 2 S9 else if k9 = 3 then rI 3 S9 else none) fun v2 S1 =>
  (sI S1 a4 13 0 v2).bind fun S4 =>
  rI 0 S4
set_option maxHeartbeats 4000000 in
set_option maxRecDepth 100000 in
theorem m_L_port {l : Launch} {b : Nat} {D : va_G} {dA : Nat → ClassId} (hst : l.stackTraces = false) {a0 : Option Nat} {x1 : Int} {x2 : Int} {x3 : Int} {a4 : Option Nat} {S : AS} {q : RS} (hx1 : inR x1) (hx2 : inR x2) (hx3 : inR x3) (h : f_L_port a0 x1 x2 x3 a4 S = some q) : hp_MW l b D dA yL_port cL_port 6 (some .int) [(0, 12, 15, 19), (0, 12, 19, 13), (0, 12, 23, 21)] 9 155 [rf b a0, iv x1, iv x2, iv x3, rf b a4] S 1 q := by
  have hcat : ∀ v ∈ ([rf b a0, iv x1, iv x2, iv x3, rf b a4] : List Value), v.category = 1 := (by intro v hv; simp only [List.mem_cons, List.not_mem_nil, or_false] at hv; rcases hv with rfl | rfl | rfl | rfl | rfl <;> first | exact cat_iv _ | exact cat_rf _ _)
  refine hp_ofJW (own := RL) hst (by decide +kernel) rfl hcat (Nat.le_of_ble_eq_true rfl) ?_
  intro p e R s m args below meth c C hTb hN hr ls hl9
  have hl : hp_L ls 6 [(0, rf b a0), (1, iv x1), (2, iv x2), (3, iv x3), (4, rf b a4)] := hp_L.of hl9 hcat
  unfold f_L_port at h
  refine j_aload C dL_port_0 (hl.at 4 rfl) ?_
  refine j_iconst C dL_port_2 ?_
  refine j_aload_n C dL_port_3 rfl (hl.at 0 rfl) ?_
  refine j_iload_n C dL_port_4 rfl (hl.at 1 rfl) ?_
  refine j_iload_n C dL_port_5 rfl (hl.at 2 rfl) ?_
  refine j_iload_n C dL_port_6 rfl (hl.at 3 rfl) ?_
  obtain ⟨c3, h⟩ := gd_some h
  rcases cH_some h with ⟨S1, v2, wv2, hc, h⟩ | ⟨q9, hc, hne, h⟩
  · refine j_callI C (run_W (As := [iv x1, iv x2, iv x3]) (rest := [iv 0, rf b a4]) C (m_X5_port hst hx1 hx2 hx3 hc) cv_RL_15 (by decide) rfl c3 rfl hl (by simp [cat_iv, cat_rf]) (by decide) (by decide) dL_port_7) (fun hv2 => ?_)
    refine j_i2l C dL_port_10 hv2 ?_
    obtain ⟨S4, g_S4, h⟩ := bd h
    refine j_last C dL_port_11 (by decide) hv2 g_S4 ?_
    refine j_goto (tgt := 27) C dL_port_12 (by decide) ?_
    refine j_iconst C dL_port_27 ?_
    exact j_iret C dL_port_28 hr (by decide) h
  · have hr9 := run_W (As := [iv x1, iv x2, iv x3]) (rest := [iv 0, rf b a4]) C (m_X5_port hst hx1 hx2 hx3 hc) cv_RL_15 (by decide) rfl c3 rfl hl (by simp [cat_iv, cat_rf]) (by decide) (by decide) dL_port_7
    by_cases b0 : q9.1.1 = 1
    · rw [if_pos b0] at h
      refine j_caught C hN hr9 b0 (by decide) [] ⟨0, 12, 15, 19⟩ [⟨0, 12, 19, 13⟩, ⟨0, 12, 23, 21⟩] (by rw [hTb]; rfl) (fun z hz => nomatch hz) rfl (by decide) cl_RL_19 (fun q8 => ?_)
      refine k_astX (lv' := [(0, rf b a0), (1, iv x1), (2, iv x2), (3, iv x3), (4, rf b a4)]) C dL_port_15 hl (by decide) rfl (fun ls hl => ?_)
      refine j_iconst C dL_port_17 ?_
      exact j_iret C dL_port_18 hr (by decide) h
    rw [if_neg b0] at h
    by_cases b1 : q9.1.1 = 2
    · rw [if_pos b1] at h
      refine j_caught C hN hr9 b1 (by decide) [⟨0, 12, 15, 19⟩] ⟨0, 12, 19, 13⟩ [⟨0, 12, 23, 21⟩] (by rw [hTb]; rfl) (by intro z hz; simp only [List.mem_cons, List.not_mem_nil, or_false] at hz; rcases hz with rfl <;> first | exact ⟨(by decide), 1, by decide, by decide, by decide, cl_RL_19⟩) rfl (by decide) cl_RL_13 (fun q8 => ?_)
      refine k_astX (lv' := [(0, rf b a0), (1, iv x1), (2, iv x2), (3, iv x3), (4, rf b a4)]) C dL_port_19 hl (by decide) rfl (fun ls hl => ?_)
      refine j_iconst C dL_port_21 ?_
      exact j_iret C dL_port_22 hr (by decide) h
    rw [if_neg b1] at h
    by_cases b2 : q9.1.1 = 3
    · rw [if_pos b2] at h
      refine j_caught C hN hr9 b2 (by decide) [⟨0, 12, 15, 19⟩, ⟨0, 12, 19, 13⟩] ⟨0, 12, 23, 21⟩ [] (by rw [hTb]; rfl) (by intro z hz; simp only [List.mem_cons, List.not_mem_nil, or_false] at hz; rcases hz with rfl | rfl <;> first | exact ⟨(by decide), 1, by decide, by decide, by decide, cl_RL_19⟩ | exact ⟨(by decide), 2, by decide, by decide, by decide, cl_RL_13⟩) rfl (by decide) cl_RL_21 (fun q8 => ?_)
      refine k_astX (lv' := [(0, rf b a0), (1, iv x1), (2, iv x2), (3, iv x3), (4, rf b a4)]) C dL_port_23 hl (by decide) rfl (fun ls hl => ?_)
      refine j_iconst C dL_port_25 ?_
      exact j_iret C dL_port_26 hr (by decide) h
    rw [if_neg b2] at h
    cases h
noncomputable def f_L_instance (a0 : Option Nat) (x1 : Int) (x2 : Int) (a3 : Option Nat) (S : AS) : Option RS :=
  gd (isK S a0 6) <|
  cHf (f_X5_instance a0 x1 x2 S) (fun k9 S9 => if k9 = 1 then rI 1 S9 else if k9 = 2 then rI 2 S9 else none) fun v2 S1 =>
  (sI S1 a3 13 0 v2).bind fun S4 =>
  rI 0 S4
set_option maxHeartbeats 4000000 in
set_option maxRecDepth 100000 in
theorem m_L_instance {l : Launch} {b : Nat} {D : va_G} {dA : Nat → ClassId} (hst : l.stackTraces = false) {a0 : Option Nat} {x1 : Int} {x2 : Int} {a3 : Option Nat} {S : AS} {q : RS} (hx1 : inR x1) (hx2 : inR x2) (h : f_L_instance a0 x1 x2 a3 S = some q) : hp_MW l b D dA yL_instance cL_instance 5 (some .int) [(0, 10, 13, 19), (0, 10, 17, 13)] 41 850 [rf b a0, iv x1, iv x2, rf b a3] S 1 q := by
  have hcat : ∀ v ∈ ([rf b a0, iv x1, iv x2, rf b a3] : List Value), v.category = 1 := (by intro v hv; simp only [List.mem_cons, List.not_mem_nil, or_false] at hv; rcases hv with rfl | rfl | rfl | rfl <;> first | exact cat_iv _ | exact cat_rf _ _)
  refine hp_ofJW (own := RL) hst (by decide +kernel) rfl hcat (Nat.le_of_ble_eq_true rfl) ?_
  intro p e R s m args below meth c C hTb hN hr ls hl9
  have hl : hp_L ls 5 [(0, rf b a0), (1, iv x1), (2, iv x2), (3, rf b a3)] := hp_L.of hl9 hcat
  unfold f_L_instance at h
  refine j_aload_n C dL_instance_0 rfl (hl.at 3 rfl) ?_
  refine j_iconst C dL_instance_1 ?_
  refine j_aload_n C dL_instance_2 rfl (hl.at 0 rfl) ?_
  refine j_iload_n C dL_instance_3 rfl (hl.at 1 rfl) ?_
  refine j_iload_n C dL_instance_4 rfl (hl.at 2 rfl) ?_
  obtain ⟨c3, h⟩ := gd_some h
  rcases cH_some h with ⟨S1, v2, wv2, hc, h⟩ | ⟨q9, hc, hne, h⟩
  · refine j_callI C (run_W (As := [iv x1, iv x2]) (rest := [iv 0, rf b a3]) C (m_X5_instance hst hx1 hx2 hc) cv_RL_23 (by decide) rfl c3 rfl hl (by simp [cat_iv, cat_rf]) (by decide) (by decide) dL_instance_5) (fun hv2 => ?_)
    refine j_i2l C dL_instance_8 hv2 ?_
    obtain ⟨S4, g_S4, h⟩ := bd h
    refine j_last C dL_instance_9 (by decide) hv2 g_S4 ?_
    refine j_goto (tgt := 21) C dL_instance_10 (by decide) ?_
    refine j_iconst C dL_instance_21 ?_
    exact j_iret C dL_instance_22 hr (by decide) h
  · have hr9 := run_W (As := [iv x1, iv x2]) (rest := [iv 0, rf b a3]) C (m_X5_instance hst hx1 hx2 hc) cv_RL_23 (by decide) rfl c3 rfl hl (by simp [cat_iv, cat_rf]) (by decide) (by decide) dL_instance_5
    by_cases b0 : q9.1.1 = 1
    · rw [if_pos b0] at h
      refine j_caught C hN hr9 b0 (by decide) [] ⟨0, 10, 13, 19⟩ [⟨0, 10, 17, 13⟩] (by rw [hTb]; rfl) (fun z hz => nomatch hz) rfl (by decide) cl_RL_19 (fun q8 => ?_)
      refine k_astX (lv' := [(0, rf b a0), (1, iv x1), (2, iv x2), (3, rf b a3)]) C dL_instance_13 hl (by decide) rfl (fun ls hl => ?_)
      refine j_iconst C dL_instance_15 ?_
      exact j_iret C dL_instance_16 hr (by decide) h
    rw [if_neg b0] at h
    by_cases b1 : q9.1.1 = 2
    · rw [if_pos b1] at h
      refine j_caught C hN hr9 b1 (by decide) [⟨0, 10, 13, 19⟩] ⟨0, 10, 17, 13⟩ [] (by rw [hTb]; rfl) (by intro z hz; simp only [List.mem_cons, List.not_mem_nil, or_false] at hz; rcases hz with rfl <;> first | exact ⟨(by decide), 1, by decide, by decide, by decide, cl_RL_19⟩) rfl (by decide) cl_RL_13 (fun q8 => ?_)
      refine k_astX (lv' := [(0, rf b a0), (1, iv x1), (2, iv x2), (3, rf b a3)]) C dL_instance_17 hl (by decide) rfl (fun ls hl => ?_)
      refine j_iconst C dL_instance_19 ?_
      exact j_iret C dL_instance_20 hr (by decide) h
    rw [if_neg b1] at h
    cases h
noncomputable def f_L_net (a0 : Option Nat) (x1 : Int) (a2 : Option Nat) (S : AS) : Option RS :=
  gd (isK S a0 6) <|
  cHf (f_X5_net a0 x1 S) (fun k9 S9 => if k9 = 1 then rI 1 S9 else if k9 = 2 then rI 2 S9 else none) fun v2 S1 =>
  (sI S1 a2 13 0 v2).bind fun S4 =>
  rI 0 S4
set_option maxHeartbeats 4000000 in
set_option maxRecDepth 100000 in
theorem m_L_net {l : Launch} {b : Nat} {D : va_G} {dA : Nat → ClassId} (hst : l.stackTraces = false) {a0 : Option Nat} {x1 : Int} {a2 : Option Nat} {S : AS} {q : RS} (hx1 : inR x1) (h : f_L_net a0 x1 a2 S = some q) : hp_MW l b D dA yL_net cL_net 4 (some .int) [(0, 9, 12, 19), (0, 9, 15, 13)] 11 153 [rf b a0, iv x1, rf b a2] S 1 q := by
  have hcat : ∀ v ∈ ([rf b a0, iv x1, rf b a2] : List Value), v.category = 1 := (by intro v hv; simp only [List.mem_cons, List.not_mem_nil, or_false] at hv; rcases hv with rfl | rfl | rfl <;> first | exact cat_iv _ | exact cat_rf _ _)
  refine hp_ofJW (own := RL) hst (by decide +kernel) rfl hcat (Nat.le_of_ble_eq_true rfl) ?_
  intro p e R s m args below meth c C hTb hN hr ls hl9
  have hl : hp_L ls 4 [(0, rf b a0), (1, iv x1), (2, rf b a2)] := hp_L.of hl9 hcat
  unfold f_L_net at h
  refine j_aload_n C dL_net_0 rfl (hl.at 2 rfl) ?_
  refine j_iconst C dL_net_1 ?_
  refine j_aload_n C dL_net_2 rfl (hl.at 0 rfl) ?_
  refine j_iload_n C dL_net_3 rfl (hl.at 1 rfl) ?_
  obtain ⟨c3, h⟩ := gd_some h
  rcases cH_some h with ⟨S1, v2, wv2, hc, h⟩ | ⟨q9, hc, hne, h⟩
  · refine j_callI C (run_W (As := [iv x1]) (rest := [iv 0, rf b a2]) C (m_X5_net hst hx1 hc) cv_RL_27 (by decide) rfl c3 rfl hl (by simp [cat_iv, cat_rf]) (by decide) (by decide) dL_net_4) (fun hv2 => ?_)
    refine j_i2l C dL_net_7 hv2 ?_
    obtain ⟨S4, g_S4, h⟩ := bd h
    refine j_last C dL_net_8 (by decide) hv2 g_S4 ?_
    refine j_goto (tgt := 18) C dL_net_9 (by decide) ?_
    refine j_iconst C dL_net_18 ?_
    exact j_iret C dL_net_19 hr (by decide) h
  · have hr9 := run_W (As := [iv x1]) (rest := [iv 0, rf b a2]) C (m_X5_net hst hx1 hc) cv_RL_27 (by decide) rfl c3 rfl hl (by simp [cat_iv, cat_rf]) (by decide) (by decide) dL_net_4
    by_cases b0 : q9.1.1 = 1
    · rw [if_pos b0] at h
      refine j_caught C hN hr9 b0 (by decide) [] ⟨0, 9, 12, 19⟩ [⟨0, 9, 15, 13⟩] (by rw [hTb]; rfl) (fun z hz => nomatch hz) rfl (by decide) cl_RL_19 (fun q8 => ?_)
      refine k_astX_n (lv' := [(0, rf b a0), (1, iv x1), (2, rf b a2)]) C dL_net_12 rfl hl (by decide) rfl (fun ls hl => ?_)
      refine j_iconst C dL_net_13 ?_
      exact j_iret C dL_net_14 hr (by decide) h
    rw [if_neg b0] at h
    by_cases b1 : q9.1.1 = 2
    · rw [if_pos b1] at h
      refine j_caught C hN hr9 b1 (by decide) [⟨0, 9, 12, 19⟩] ⟨0, 9, 15, 13⟩ [] (by rw [hTb]; rfl) (by intro z hz; simp only [List.mem_cons, List.not_mem_nil, or_false] at hz; rcases hz with rfl <;> first | exact ⟨(by decide), 1, by decide, by decide, by decide, cl_RL_19⟩) rfl (by decide) cl_RL_13 (fun q8 => ?_)
      refine k_astX_n (lv' := [(0, rf b a0), (1, iv x1), (2, rf b a2)]) C dL_net_15 rfl hl (by decide) rfl (fun ls hl => ?_)
      refine j_iconst C dL_net_16 ?_
      exact j_iret C dL_net_17 hr (by decide) h
    rw [if_neg b1] at h
    cases h
noncomputable def f_L_join (a0 : Option Nat) (x1 : Int) (x2 : Int) (x3 : Int) (x4 : Int) (a5 : Option Nat) (S : AS) : Option RS :=
  gd (isK S a0 6) <|
  cHf (f_X5_join a0 x1 x2 x3 x4 S) (fun k9 S9 => if k9 = 1 then rI 1 S9 else none) fun v2 S1 =>
  if v2 = 0 then
    (sI S1 a5 13 0 0).bind fun S4 =>
    rI 0 S4
  else
    (sI S1 a5 13 0 1).bind fun S5 =>
    rI 0 S5
set_option maxHeartbeats 4000000 in
set_option maxRecDepth 100000 in
theorem m_L_join {l : Launch} {b : Nat} {D : va_G} {dA : Nat → ClassId} (hst : l.stackTraces = false) {a0 : Option Nat} {x1 : Int} {x2 : Int} {x3 : Int} {x4 : Int} {a5 : Option Nat} {S : AS} {q : RS} (hx1 : inR x1) (hx2 : inR x2) (hx3 : inR x3) (hx4 : inR x4) (h : f_L_join a0 x1 x2 x3 x4 a5 S = some q) : hp_MW l b D dA yL_join cL_join 7 (some .int) [(0, 21, 24, 19)] 12 202 [rf b a0, iv x1, iv x2, iv x3, iv x4, rf b a5] S 1 q := by
  have hcat : ∀ v ∈ ([rf b a0, iv x1, iv x2, iv x3, iv x4, rf b a5] : List Value), v.category = 1 := (by intro v hv; simp only [List.mem_cons, List.not_mem_nil, or_false] at hv; rcases hv with rfl | rfl | rfl | rfl | rfl | rfl <;> first | exact cat_iv _ | exact cat_rf _ _)
  refine hp_ofJW (own := RL) hst (by decide +kernel) rfl hcat (Nat.le_of_ble_eq_true rfl) ?_
  intro p e R s m args below meth c C hTb hN hr ls hl9
  have hl : hp_L ls 7 [(0, rf b a0), (1, iv x1), (2, iv x2), (3, iv x3), (4, iv x4), (5, rf b a5)] := hp_L.of hl9 hcat
  unfold f_L_join at h
  refine j_aload C dL_join_0 (hl.at 5 rfl) ?_
  refine j_iconst C dL_join_2 ?_
  refine j_aload_n C dL_join_3 rfl (hl.at 0 rfl) ?_
  refine j_iload_n C dL_join_4 rfl (hl.at 1 rfl) ?_
  refine j_iload_n C dL_join_5 rfl (hl.at 2 rfl) ?_
  refine j_iload_n C dL_join_6 rfl (hl.at 3 rfl) ?_
  refine j_iload C dL_join_7 (hl.at 4 rfl) ?_
  obtain ⟨c3, h⟩ := gd_some h
  rcases cH_some h with ⟨S1, v2, wv2, hc, h⟩ | ⟨q9, hc, hne, h⟩
  · refine j_callI C (run_W (As := [iv x1, iv x2, iv x3, iv x4]) (rest := [iv 0, rf b a5]) C (m_X5_join hst hx1 hx2 hx3 hx4 hc) cv_RL_31 (by decide) rfl c3 rfl hl (by simp [cat_iv, cat_rf]) (by decide) (by decide) dL_join_9) (fun hv2 => ?_)
    refine j_if_eq (tgt := 19) C dL_join_12 (by decide) hv2 (fun b1 => ?_) (fun b1 => ?_)
    · rw [if_pos b1] at h
      refine j_lconst (x := 0) C dL_join_19 (by decide) ?_
      obtain ⟨S4, g_S4, h⟩ := bd h
      refine j_last C dL_join_20 (by decide) (by decide) g_S4 ?_
      refine j_goto (tgt := 28) C dL_join_21 (by decide) ?_
      refine j_iconst C dL_join_28 ?_
      exact j_iret C dL_join_29 hr (by decide) h
    · rw [if_neg b1] at h
      refine j_lconst (x := 1) C dL_join_15 (by decide) ?_
      refine j_goto (tgt := 20) C dL_join_16 (by decide) ?_
      obtain ⟨S5, g_S5, h⟩ := bd h
      refine j_last C dL_join_20 (by decide) (by decide) g_S5 ?_
      refine j_goto (tgt := 28) C dL_join_21 (by decide) ?_
      refine j_iconst C dL_join_28 ?_
      exact j_iret C dL_join_29 hr (by decide) h
  · have hr9 := run_W (As := [iv x1, iv x2, iv x3, iv x4]) (rest := [iv 0, rf b a5]) C (m_X5_join hst hx1 hx2 hx3 hx4 hc) cv_RL_31 (by decide) rfl c3 rfl hl (by simp [cat_iv, cat_rf]) (by decide) (by decide) dL_join_9
    by_cases b0 : q9.1.1 = 1
    · rw [if_pos b0] at h
      refine j_caught C hN hr9 b0 (by decide) [] ⟨0, 21, 24, 19⟩ [] (by rw [hTb]; rfl) (fun z hz => nomatch hz) rfl (by decide) cl_RL_19 (fun q8 => ?_)
      refine k_astX (lv' := [(0, rf b a0), (1, iv x1), (2, iv x2), (3, iv x3), (4, iv x4), (5, rf b a5)]) C dL_join_24 hl (by decide) rfl (fun ls hl => ?_)
      refine j_iconst C dL_join_26 ?_
      exact j_iret C dL_join_27 hr (by decide) h
    rw [if_neg b0] at h
    cases h
noncomputable def f_L_part (a0 : Option Nat) (x1 : Int) (x2 : Int) (x3 : Int) (a4 : Option Nat) (S : AS) : Option RS :=
  gd (isK S a0 6) <|
  cHf (f_X5_part a0 x1 x2 x3 S) (fun k9 S9 => if k9 = 1 then rI 1 S9 else none) fun v2 S1 =>
  if v2 = 0 then
    (sI S1 a4 13 0 0).bind fun S4 =>
    rI 0 S4
  else
    (sI S1 a4 13 0 1).bind fun S5 =>
    rI 0 S5
set_option maxHeartbeats 4000000 in
set_option maxRecDepth 100000 in
theorem m_L_part {l : Launch} {b : Nat} {D : va_G} {dA : Nat → ClassId} (hst : l.stackTraces = false) {a0 : Option Nat} {x1 : Int} {x2 : Int} {x3 : Int} {a4 : Option Nat} {S : AS} {q : RS} (hx1 : inR x1) (hx2 : inR x2) (hx3 : inR x3) (h : f_L_part a0 x1 x2 x3 a4 S = some q) : hp_MW l b D dA yL_part cL_part 6 (some .int) [(0, 19, 22, 19)] 12 200 [rf b a0, iv x1, iv x2, iv x3, rf b a4] S 1 q := by
  have hcat : ∀ v ∈ ([rf b a0, iv x1, iv x2, iv x3, rf b a4] : List Value), v.category = 1 := (by intro v hv; simp only [List.mem_cons, List.not_mem_nil, or_false] at hv; rcases hv with rfl | rfl | rfl | rfl | rfl <;> first | exact cat_iv _ | exact cat_rf _ _)
  refine hp_ofJW (own := RL) hst (by decide +kernel) rfl hcat (Nat.le_of_ble_eq_true rfl) ?_
  intro p e R s m args below meth c C hTb hN hr ls hl9
  have hl : hp_L ls 6 [(0, rf b a0), (1, iv x1), (2, iv x2), (3, iv x3), (4, rf b a4)] := hp_L.of hl9 hcat
  unfold f_L_part at h
  refine j_aload C dL_part_0 (hl.at 4 rfl) ?_
  refine j_iconst C dL_part_2 ?_
  refine j_aload_n C dL_part_3 rfl (hl.at 0 rfl) ?_
  refine j_iload_n C dL_part_4 rfl (hl.at 1 rfl) ?_
  refine j_iload_n C dL_part_5 rfl (hl.at 2 rfl) ?_
  refine j_iload_n C dL_part_6 rfl (hl.at 3 rfl) ?_
  obtain ⟨c3, h⟩ := gd_some h
  rcases cH_some h with ⟨S1, v2, wv2, hc, h⟩ | ⟨q9, hc, hne, h⟩
  · refine j_callI C (run_W (As := [iv x1, iv x2, iv x3]) (rest := [iv 0, rf b a4]) C (m_X5_part hst hx1 hx2 hx3 hc) cv_RL_35 (by decide) rfl c3 rfl hl (by simp [cat_iv, cat_rf]) (by decide) (by decide) dL_part_7) (fun hv2 => ?_)
    refine j_if_eq (tgt := 17) C dL_part_10 (by decide) hv2 (fun b1 => ?_) (fun b1 => ?_)
    · rw [if_pos b1] at h
      refine j_lconst (x := 0) C dL_part_17 (by decide) ?_
      obtain ⟨S4, g_S4, h⟩ := bd h
      refine j_last C dL_part_18 (by decide) (by decide) g_S4 ?_
      refine j_goto (tgt := 26) C dL_part_19 (by decide) ?_
      refine j_iconst C dL_part_26 ?_
      exact j_iret C dL_part_27 hr (by decide) h
    · rw [if_neg b1] at h
      refine j_lconst (x := 1) C dL_part_13 (by decide) ?_
      refine j_goto (tgt := 18) C dL_part_14 (by decide) ?_
      obtain ⟨S5, g_S5, h⟩ := bd h
      refine j_last C dL_part_18 (by decide) (by decide) g_S5 ?_
      refine j_goto (tgt := 26) C dL_part_19 (by decide) ?_
      refine j_iconst C dL_part_26 ?_
      exact j_iret C dL_part_27 hr (by decide) h
  · have hr9 := run_W (As := [iv x1, iv x2, iv x3]) (rest := [iv 0, rf b a4]) C (m_X5_part hst hx1 hx2 hx3 hc) cv_RL_35 (by decide) rfl c3 rfl hl (by simp [cat_iv, cat_rf]) (by decide) (by decide) dL_part_7
    by_cases b0 : q9.1.1 = 1
    · rw [if_pos b0] at h
      refine j_caught C hN hr9 b0 (by decide) [] ⟨0, 19, 22, 19⟩ [] (by rw [hTb]; rfl) (fun z hz => nomatch hz) rfl (by decide) cl_RL_19 (fun q8 => ?_)
      refine k_astX (lv' := [(0, rf b a0), (1, iv x1), (2, iv x2), (3, iv x3), (4, rf b a4)]) C dL_part_22 hl (by decide) rfl (fun ls hl => ?_)
      refine j_iconst C dL_part_24 ?_
      exact j_iret C dL_part_25 hr (by decide) h
    rw [if_neg b0] at h
    cases h
noncomputable def f_L_netOf (a0 : Option Nat) (x1 : Int) (x2 : Int) (x3 : Int) (a4 : Option Nat) (S : AS) : Option RS :=
  gd (isK S a0 6) <|
  cHf (f_X5_netOf a0 x1 x2 x3 S) (fun k9 S9 => if k9 = 1 then rI 1 S9 else none) fun v2 S1 =>
  (sI S1 a4 13 0 v2).bind fun S4 =>
  rI 0 S4
set_option maxHeartbeats 4000000 in
set_option maxRecDepth 100000 in
theorem m_L_netOf {l : Launch} {b : Nat} {D : va_G} {dA : Nat → ClassId} (hst : l.stackTraces = false) {a0 : Option Nat} {x1 : Int} {x2 : Int} {x3 : Int} {a4 : Option Nat} {S : AS} {q : RS} (hx1 : inR x1) (hx2 : inR x2) (hx3 : inR x3) (h : f_L_netOf a0 x1 x2 x3 a4 S = some q) : hp_MW l b D dA yL_netOf cL_netOf 6 (some .int) [(0, 12, 15, 19)] 10 177 [rf b a0, iv x1, iv x2, iv x3, rf b a4] S 1 q := by
  have hcat : ∀ v ∈ ([rf b a0, iv x1, iv x2, iv x3, rf b a4] : List Value), v.category = 1 := (by intro v hv; simp only [List.mem_cons, List.not_mem_nil, or_false] at hv; rcases hv with rfl | rfl | rfl | rfl | rfl <;> first | exact cat_iv _ | exact cat_rf _ _)
  refine hp_ofJW (own := RL) hst (by decide +kernel) rfl hcat (Nat.le_of_ble_eq_true rfl) ?_
  intro p e R s m args below meth c C hTb hN hr ls hl9
  have hl : hp_L ls 6 [(0, rf b a0), (1, iv x1), (2, iv x2), (3, iv x3), (4, rf b a4)] := hp_L.of hl9 hcat
  unfold f_L_netOf at h
  refine j_aload C dL_netOf_0 (hl.at 4 rfl) ?_
  refine j_iconst C dL_netOf_2 ?_
  refine j_aload_n C dL_netOf_3 rfl (hl.at 0 rfl) ?_
  refine j_iload_n C dL_netOf_4 rfl (hl.at 1 rfl) ?_
  refine j_iload_n C dL_netOf_5 rfl (hl.at 2 rfl) ?_
  refine j_iload_n C dL_netOf_6 rfl (hl.at 3 rfl) ?_
  obtain ⟨c3, h⟩ := gd_some h
  rcases cH_some h with ⟨S1, v2, wv2, hc, h⟩ | ⟨q9, hc, hne, h⟩
  · refine j_callI C (run_W (As := [iv x1, iv x2, iv x3]) (rest := [iv 0, rf b a4]) C (m_X5_netOf hst hx1 hx2 hx3 hc) cv_RL_39 (by decide) rfl c3 rfl hl (by simp [cat_iv, cat_rf]) (by decide) (by decide) dL_netOf_7) (fun hv2 => ?_)
    refine j_i2l C dL_netOf_10 hv2 ?_
    obtain ⟨S4, g_S4, h⟩ := bd h
    refine j_last C dL_netOf_11 (by decide) hv2 g_S4 ?_
    refine j_goto (tgt := 19) C dL_netOf_12 (by decide) ?_
    refine j_iconst C dL_netOf_19 ?_
    exact j_iret C dL_netOf_20 hr (by decide) h
  · have hr9 := run_W (As := [iv x1, iv x2, iv x3]) (rest := [iv 0, rf b a4]) C (m_X5_netOf hst hx1 hx2 hx3 hc) cv_RL_39 (by decide) rfl c3 rfl hl (by simp [cat_iv, cat_rf]) (by decide) (by decide) dL_netOf_7
    by_cases b0 : q9.1.1 = 1
    · rw [if_pos b0] at h
      refine j_caught C hN hr9 b0 (by decide) [] ⟨0, 12, 15, 19⟩ [] (by rw [hTb]; rfl) (fun z hz => nomatch hz) rfl (by decide) cl_RL_19 (fun q8 => ?_)
      refine k_astX (lv' := [(0, rf b a0), (1, iv x1), (2, iv x2), (3, iv x3), (4, rf b a4)]) C dL_netOf_15 hl (by decide) rfl (fun ls hl => ?_)
      refine j_iconst C dL_netOf_17 ?_
      exact j_iret C dL_netOf_18 hr (by decide) h
    rw [if_neg b0] at h
    cases h
noncomputable def f_L_pins (a0 : Option Nat) (x1 : Int) (x2 : Int) (a3 : Option Nat) (S : AS) : Option RS :=
  gd (isK S a0 6) <|
  cHf (f_X5_pins a0 x1 x2 S) (fun k9 S9 => if k9 = 1 then rI 1 S9 else none) fun v2 S1 =>
  (sI S1 a3 13 0 v2).bind fun S4 =>
  rI 0 S4
set_option maxHeartbeats 4000000 in
set_option maxRecDepth 100000 in
theorem m_L_pins {l : Launch} {b : Nat} {D : va_G} {dA : Nat → ClassId} (hst : l.stackTraces = false) {a0 : Option Nat} {x1 : Int} {x2 : Int} {a3 : Option Nat} {S : AS} {q : RS} (hx1 : inR x1) (hx2 : inR x2) (h : f_L_pins a0 x1 x2 a3 S = some q) : hp_MW l b D dA yL_pins cL_pins 5 (some .int) [(0, 10, 13, 19)] 9 160 [rf b a0, iv x1, iv x2, rf b a3] S 1 q := by
  have hcat : ∀ v ∈ ([rf b a0, iv x1, iv x2, rf b a3] : List Value), v.category = 1 := (by intro v hv; simp only [List.mem_cons, List.not_mem_nil, or_false] at hv; rcases hv with rfl | rfl | rfl | rfl <;> first | exact cat_iv _ | exact cat_rf _ _)
  refine hp_ofJW (own := RL) hst (by decide +kernel) rfl hcat (Nat.le_of_ble_eq_true rfl) ?_
  intro p e R s m args below meth c C hTb hN hr ls hl9
  have hl : hp_L ls 5 [(0, rf b a0), (1, iv x1), (2, iv x2), (3, rf b a3)] := hp_L.of hl9 hcat
  unfold f_L_pins at h
  refine j_aload_n C dL_pins_0 rfl (hl.at 3 rfl) ?_
  refine j_iconst C dL_pins_1 ?_
  refine j_aload_n C dL_pins_2 rfl (hl.at 0 rfl) ?_
  refine j_iload_n C dL_pins_3 rfl (hl.at 1 rfl) ?_
  refine j_iload_n C dL_pins_4 rfl (hl.at 2 rfl) ?_
  obtain ⟨c3, h⟩ := gd_some h
  rcases cH_some h with ⟨S1, v2, wv2, hc, h⟩ | ⟨q9, hc, hne, h⟩
  · refine j_callI C (run_W (As := [iv x1, iv x2]) (rest := [iv 0, rf b a3]) C (m_X5_pins hst hx1 hx2 hc) cv_RL_43 (by decide) rfl c3 rfl hl (by simp [cat_iv, cat_rf]) (by decide) (by decide) dL_pins_5) (fun hv2 => ?_)
    refine j_i2l C dL_pins_8 hv2 ?_
    obtain ⟨S4, g_S4, h⟩ := bd h
    refine j_last C dL_pins_9 (by decide) hv2 g_S4 ?_
    refine j_goto (tgt := 17) C dL_pins_10 (by decide) ?_
    refine j_iconst C dL_pins_17 ?_
    exact j_iret C dL_pins_18 hr (by decide) h
  · have hr9 := run_W (As := [iv x1, iv x2]) (rest := [iv 0, rf b a3]) C (m_X5_pins hst hx1 hx2 hc) cv_RL_43 (by decide) rfl c3 rfl hl (by simp [cat_iv, cat_rf]) (by decide) (by decide) dL_pins_5
    by_cases b0 : q9.1.1 = 1
    · rw [if_pos b0] at h
      refine j_caught C hN hr9 b0 (by decide) [] ⟨0, 10, 13, 19⟩ [] (by rw [hTb]; rfl) (fun z hz => nomatch hz) rfl (by decide) cl_RL_19 (fun q8 => ?_)
      refine k_astX (lv' := [(0, rf b a0), (1, iv x1), (2, iv x2), (3, rf b a3)]) C dL_pins_13 hl (by decide) rfl (fun ls hl => ?_)
      refine j_iconst C dL_pins_15 ?_
      exact j_iret C dL_pins_16 hr (by decide) h
    rw [if_neg b0] at h
    cases h
noncomputable def f_L_pin (a0 : Option Nat) (x1 : Int) (x2 : Int) (x3 : Int) (x4 : Int) (a5 : Option Nat) (S : AS) : Option RS :=
  gd (isK S a0 6) <|
  cHf (f_X5_pin a0 x1 x2 x3 x4 S) (fun k9 S9 => if k9 = 1 then rI 1 S9 else none) fun v2 S1 =>
  (sI S1 a5 13 0 v2).bind fun S4 =>
  rI 0 S4
set_option maxHeartbeats 4000000 in
set_option maxRecDepth 100000 in
theorem m_L_pin {l : Launch} {b : Nat} {D : va_G} {dA : Nat → ClassId} (hst : l.stackTraces = false) {a0 : Option Nat} {x1 : Int} {x2 : Int} {x3 : Int} {x4 : Int} {a5 : Option Nat} {S : AS} {q : RS} (hx1 : inR x1) (hx2 : inR x2) (hx3 : inR x3) (hx4 : inR x4) (h : f_L_pin a0 x1 x2 x3 x4 a5 S = some q) : hp_MW l b D dA yL_pin cL_pin 7 (some .int) [(0, 14, 17, 19)] 9 159 [rf b a0, iv x1, iv x2, iv x3, iv x4, rf b a5] S 1 q := by
  have hcat : ∀ v ∈ ([rf b a0, iv x1, iv x2, iv x3, iv x4, rf b a5] : List Value), v.category = 1 := (by intro v hv; simp only [List.mem_cons, List.not_mem_nil, or_false] at hv; rcases hv with rfl | rfl | rfl | rfl | rfl | rfl <;> first | exact cat_iv _ | exact cat_rf _ _)
  refine hp_ofJW (own := RL) hst (by decide +kernel) rfl hcat (Nat.le_of_ble_eq_true rfl) ?_
  intro p e R s m args below meth c C hTb hN hr ls hl9
  have hl : hp_L ls 7 [(0, rf b a0), (1, iv x1), (2, iv x2), (3, iv x3), (4, iv x4), (5, rf b a5)] := hp_L.of hl9 hcat
  unfold f_L_pin at h
  refine j_aload C dL_pin_0 (hl.at 5 rfl) ?_
  refine j_iconst C dL_pin_2 ?_
  refine j_aload_n C dL_pin_3 rfl (hl.at 0 rfl) ?_
  refine j_iload_n C dL_pin_4 rfl (hl.at 1 rfl) ?_
  refine j_iload_n C dL_pin_5 rfl (hl.at 2 rfl) ?_
  refine j_iload_n C dL_pin_6 rfl (hl.at 3 rfl) ?_
  refine j_iload C dL_pin_7 (hl.at 4 rfl) ?_
  obtain ⟨c3, h⟩ := gd_some h
  rcases cH_some h with ⟨S1, v2, wv2, hc, h⟩ | ⟨q9, hc, hne, h⟩
  · refine j_callI C (run_W (As := [iv x1, iv x2, iv x3, iv x4]) (rest := [iv 0, rf b a5]) C (m_X5_pin hst hx1 hx2 hx3 hx4 hc) cv_RL_46 (by decide) rfl c3 rfl hl (by simp [cat_iv, cat_rf]) (by decide) (by decide) dL_pin_9) (fun hv2 => ?_)
    refine j_i2l C dL_pin_12 hv2 ?_
    obtain ⟨S4, g_S4, h⟩ := bd h
    refine j_last C dL_pin_13 (by decide) hv2 g_S4 ?_
    refine j_goto (tgt := 21) C dL_pin_14 (by decide) ?_
    refine j_iconst C dL_pin_21 ?_
    exact j_iret C dL_pin_22 hr (by decide) h
  · have hr9 := run_W (As := [iv x1, iv x2, iv x3, iv x4]) (rest := [iv 0, rf b a5]) C (m_X5_pin hst hx1 hx2 hx3 hx4 hc) cv_RL_46 (by decide) rfl c3 rfl hl (by simp [cat_iv, cat_rf]) (by decide) (by decide) dL_pin_9
    by_cases b0 : q9.1.1 = 1
    · rw [if_pos b0] at h
      refine j_caught C hN hr9 b0 (by decide) [] ⟨0, 14, 17, 19⟩ [] (by rw [hTb]; rfl) (fun z hz => nomatch hz) rfl (by decide) cl_RL_19 (fun q8 => ?_)
      refine k_astX (lv' := [(0, rf b a0), (1, iv x1), (2, iv x2), (3, iv x3), (4, iv x4), (5, rf b a5)]) C dL_pin_17 hl (by decide) rfl (fun ls hl => ?_)
      refine j_iconst C dL_pin_19 ?_
      exact j_iret C dL_pin_20 hr (by decide) h
    rw [if_neg b0] at h
    cases h
noncomputable def f_L_copy (a0 : Option Nat) (x1 : Int) (a2 : Option Nat) (S : AS) : Option RS :=
  gd (isK S a0 6) <|
  cHf (f_X5_copy a0 x1 S) (fun k9 S9 => if k9 = 1 then rI 1 S9 else if k9 = 2 then rI 2 S9 else none) fun v2 S1 =>
  (sI S1 a2 13 0 v2).bind fun S4 =>
  rI 0 S4
set_option maxHeartbeats 4000000 in
set_option maxRecDepth 100000 in
theorem m_L_copy {l : Launch} {b : Nat} {D : va_G} {dA : Nat → ClassId} (hst : l.stackTraces = false) {a0 : Option Nat} {x1 : Int} {a2 : Option Nat} {S : AS} {q : RS} (hx1 : inR x1) (h : f_L_copy a0 x1 a2 S = some q) : hp_MW l b D dA yL_copy cL_copy 4 (some .int) [(0, 9, 12, 19), (0, 9, 15, 13)] 9 154 [rf b a0, iv x1, rf b a2] S 1 q := by
  have hcat : ∀ v ∈ ([rf b a0, iv x1, rf b a2] : List Value), v.category = 1 := (by intro v hv; simp only [List.mem_cons, List.not_mem_nil, or_false] at hv; rcases hv with rfl | rfl | rfl <;> first | exact cat_iv _ | exact cat_rf _ _)
  refine hp_ofJW (own := RL) hst (by decide +kernel) rfl hcat (Nat.le_of_ble_eq_true rfl) ?_
  intro p e R s m args below meth c C hTb hN hr ls hl9
  have hl : hp_L ls 4 [(0, rf b a0), (1, iv x1), (2, rf b a2)] := hp_L.of hl9 hcat
  unfold f_L_copy at h
  refine j_aload_n C dL_copy_0 rfl (hl.at 2 rfl) ?_
  refine j_iconst C dL_copy_1 ?_
  refine j_aload_n C dL_copy_2 rfl (hl.at 0 rfl) ?_
  refine j_iload_n C dL_copy_3 rfl (hl.at 1 rfl) ?_
  obtain ⟨c3, h⟩ := gd_some h
  rcases cH_some h with ⟨S1, v2, wv2, hc, h⟩ | ⟨q9, hc, hne, h⟩
  · refine j_callI C (run_W (As := [iv x1]) (rest := [iv 0, rf b a2]) C (m_X5_copy hst hx1 hc) cv_RL_50 (by decide) rfl c3 rfl hl (by simp [cat_iv, cat_rf]) (by decide) (by decide) dL_copy_4) (fun hv2 => ?_)
    refine j_i2l C dL_copy_7 hv2 ?_
    obtain ⟨S4, g_S4, h⟩ := bd h
    refine j_last C dL_copy_8 (by decide) hv2 g_S4 ?_
    refine j_goto (tgt := 18) C dL_copy_9 (by decide) ?_
    refine j_iconst C dL_copy_18 ?_
    exact j_iret C dL_copy_19 hr (by decide) h
  · have hr9 := run_W (As := [iv x1]) (rest := [iv 0, rf b a2]) C (m_X5_copy hst hx1 hc) cv_RL_50 (by decide) rfl c3 rfl hl (by simp [cat_iv, cat_rf]) (by decide) (by decide) dL_copy_4
    by_cases b0 : q9.1.1 = 1
    · rw [if_pos b0] at h
      refine j_caught C hN hr9 b0 (by decide) [] ⟨0, 9, 12, 19⟩ [⟨0, 9, 15, 13⟩] (by rw [hTb]; rfl) (fun z hz => nomatch hz) rfl (by decide) cl_RL_19 (fun q8 => ?_)
      refine k_astX_n (lv' := [(0, rf b a0), (1, iv x1), (2, rf b a2)]) C dL_copy_12 rfl hl (by decide) rfl (fun ls hl => ?_)
      refine j_iconst C dL_copy_13 ?_
      exact j_iret C dL_copy_14 hr (by decide) h
    rw [if_neg b0] at h
    by_cases b1 : q9.1.1 = 2
    · rw [if_pos b1] at h
      refine j_caught C hN hr9 b1 (by decide) [⟨0, 9, 12, 19⟩] ⟨0, 9, 15, 13⟩ [] (by rw [hTb]; rfl) (by intro z hz; simp only [List.mem_cons, List.not_mem_nil, or_false] at hz; rcases hz with rfl <;> first | exact ⟨(by decide), 1, by decide, by decide, by decide, cl_RL_19⟩) rfl (by decide) cl_RL_13 (fun q8 => ?_)
      refine k_astX_n (lv' := [(0, rf b a0), (1, iv x1), (2, rf b a2)]) C dL_copy_15 rfl hl (by decide) rfl (fun ls hl => ?_)
      refine j_iconst C dL_copy_16 ?_
      exact j_iret C dL_copy_17 hr (by decide) h
    rw [if_neg b1] at h
    cases h
noncomputable def f_L_shared (a0 : Option Nat) (x1 : Int) (x2 : Int) (a3 : Option Nat) (S : AS) : Option RS :=
  gd (isK S a0 6) <|
  cHf (f_X5_shared a0 x1 x2 S) (fun k9 S9 => if k9 = 1 then rI 1 S9 else none) fun v2 S1 =>
  if v2 = 0 then
    (sI S1 a3 13 0 0).bind fun S4 =>
    rI 0 S4
  else
    (sI S1 a3 13 0 1).bind fun S5 =>
    rI 0 S5
set_option maxHeartbeats 4000000 in
set_option maxRecDepth 100000 in
theorem m_L_shared {l : Launch} {b : Nat} {D : va_G} {dA : Nat → ClassId} (hst : l.stackTraces = false) {a0 : Option Nat} {x1 : Int} {x2 : Int} {a3 : Option Nat} {S : AS} {q : RS} (hx1 : inR x1) (hx2 : inR x2) (h : f_L_shared a0 x1 x2 a3 S = some q) : hp_MW l b D dA yL_shared cL_shared 5 (some .int) [(0, 17, 20, 19)] 9 153 [rf b a0, iv x1, iv x2, rf b a3] S 1 q := by
  have hcat : ∀ v ∈ ([rf b a0, iv x1, iv x2, rf b a3] : List Value), v.category = 1 := (by intro v hv; simp only [List.mem_cons, List.not_mem_nil, or_false] at hv; rcases hv with rfl | rfl | rfl | rfl <;> first | exact cat_iv _ | exact cat_rf _ _)
  refine hp_ofJW (own := RL) hst (by decide +kernel) rfl hcat (Nat.le_of_ble_eq_true rfl) ?_
  intro p e R s m args below meth c C hTb hN hr ls hl9
  have hl : hp_L ls 5 [(0, rf b a0), (1, iv x1), (2, iv x2), (3, rf b a3)] := hp_L.of hl9 hcat
  unfold f_L_shared at h
  refine j_aload_n C dL_shared_0 rfl (hl.at 3 rfl) ?_
  refine j_iconst C dL_shared_1 ?_
  refine j_aload_n C dL_shared_2 rfl (hl.at 0 rfl) ?_
  refine j_iload_n C dL_shared_3 rfl (hl.at 1 rfl) ?_
  refine j_iload_n C dL_shared_4 rfl (hl.at 2 rfl) ?_
  obtain ⟨c3, h⟩ := gd_some h
  rcases cH_some h with ⟨S1, v2, wv2, hc, h⟩ | ⟨q9, hc, hne, h⟩
  · refine j_callI C (run_W (As := [iv x1, iv x2]) (rest := [iv 0, rf b a3]) C (m_X5_shared hst hx1 hx2 hc) cv_RL_53 (by decide) rfl c3 rfl hl (by simp [cat_iv, cat_rf]) (by decide) (by decide) dL_shared_5) (fun hv2 => ?_)
    refine j_if_eq (tgt := 15) C dL_shared_8 (by decide) hv2 (fun b1 => ?_) (fun b1 => ?_)
    · rw [if_pos b1] at h
      refine j_lconst (x := 0) C dL_shared_15 (by decide) ?_
      obtain ⟨S4, g_S4, h⟩ := bd h
      refine j_last C dL_shared_16 (by decide) (by decide) g_S4 ?_
      refine j_goto (tgt := 24) C dL_shared_17 (by decide) ?_
      refine j_iconst C dL_shared_24 ?_
      exact j_iret C dL_shared_25 hr (by decide) h
    · rw [if_neg b1] at h
      refine j_lconst (x := 1) C dL_shared_11 (by decide) ?_
      refine j_goto (tgt := 16) C dL_shared_12 (by decide) ?_
      obtain ⟨S5, g_S5, h⟩ := bd h
      refine j_last C dL_shared_16 (by decide) (by decide) g_S5 ?_
      refine j_goto (tgt := 24) C dL_shared_17 (by decide) ?_
      refine j_iconst C dL_shared_24 ?_
      exact j_iret C dL_shared_25 hr (by decide) h
  · have hr9 := run_W (As := [iv x1, iv x2]) (rest := [iv 0, rf b a3]) C (m_X5_shared hst hx1 hx2 hc) cv_RL_53 (by decide) rfl c3 rfl hl (by simp [cat_iv, cat_rf]) (by decide) (by decide) dL_shared_5
    by_cases b0 : q9.1.1 = 1
    · rw [if_pos b0] at h
      refine j_caught C hN hr9 b0 (by decide) [] ⟨0, 17, 20, 19⟩ [] (by rw [hTb]; rfl) (fun z hz => nomatch hz) rfl (by decide) cl_RL_19 (fun q8 => ?_)
      refine k_astX (lv' := [(0, rf b a0), (1, iv x1), (2, iv x2), (3, rf b a3)]) C dL_shared_20 hl (by decide) rfl (fun ls hl => ?_)
      refine j_iconst C dL_shared_22 ?_
      exact j_iret C dL_shared_23 hr (by decide) h
    rw [if_neg b0] at h
    cases h
noncomputable def f_L_flat (a0 : Option Nat) (x1 : Int) (a2 : Option Nat) (S : AS) : Option RS :=
  gd (isK S a0 6) <|
  cHf (f_X5_flat a0 x1 S) (fun k9 S9 => if k9 = 1 then rI 1 S9 else if k9 = 2 then rI 2 S9 else if k9 = 4 then rI 3 S9 else none) fun v2 S1 =>
  (sI S1 a2 13 0 v2).bind fun S4 =>
  rI 0 S4
set_option maxHeartbeats 4000000 in
set_option maxRecDepth 100000 in
theorem m_L_flat {l : Launch} {b : Nat} {D : va_G} {dA : Nat → ClassId} (hst : l.stackTraces = false) {a0 : Option Nat} {x1 : Int} {a2 : Option Nat} {S : AS} {q : RS} (hx1 : inR x1) (h : f_L_flat a0 x1 a2 S = some q) : hp_MW l b D dA yL_flat cL_flat 4 (some .int) [(0, 9, 12, 19), (0, 9, 15, 13), (0, 9, 18, 60)] 41 1016 [rf b a0, iv x1, rf b a2] S 1 q := by
  have hcat : ∀ v ∈ ([rf b a0, iv x1, rf b a2] : List Value), v.category = 1 := (by intro v hv; simp only [List.mem_cons, List.not_mem_nil, or_false] at hv; rcases hv with rfl | rfl | rfl <;> first | exact cat_iv _ | exact cat_rf _ _)
  refine hp_ofJW (own := RL) hst (by decide +kernel) rfl hcat (Nat.le_of_ble_eq_true rfl) ?_
  intro p e R s m args below meth c C hTb hN hr ls hl9
  have hl : hp_L ls 4 [(0, rf b a0), (1, iv x1), (2, rf b a2)] := hp_L.of hl9 hcat
  unfold f_L_flat at h
  refine j_aload_n C dL_flat_0 rfl (hl.at 2 rfl) ?_
  refine j_iconst C dL_flat_1 ?_
  refine j_aload_n C dL_flat_2 rfl (hl.at 0 rfl) ?_
  refine j_iload_n C dL_flat_3 rfl (hl.at 1 rfl) ?_
  obtain ⟨c3, h⟩ := gd_some h
  rcases cH_some h with ⟨S1, v2, wv2, hc, h⟩ | ⟨q9, hc, hne, h⟩
  · refine j_callI C (run_W (As := [iv x1]) (rest := [iv 0, rf b a2]) C (m_X5_flat hst hx1 hc) cv_RL_57 (by decide) rfl c3 rfl hl (by simp [cat_iv, cat_rf]) (by decide) (by decide) dL_flat_4) (fun hv2 => ?_)
    refine j_i2l C dL_flat_7 hv2 ?_
    obtain ⟨S4, g_S4, h⟩ := bd h
    refine j_last C dL_flat_8 (by decide) hv2 g_S4 ?_
    refine j_goto (tgt := 21) C dL_flat_9 (by decide) ?_
    refine j_iconst C dL_flat_21 ?_
    exact j_iret C dL_flat_22 hr (by decide) h
  · have hr9 := run_W (As := [iv x1]) (rest := [iv 0, rf b a2]) C (m_X5_flat hst hx1 hc) cv_RL_57 (by decide) rfl c3 rfl hl (by simp [cat_iv, cat_rf]) (by decide) (by decide) dL_flat_4
    by_cases b0 : q9.1.1 = 1
    · rw [if_pos b0] at h
      refine j_caught C hN hr9 b0 (by decide) [] ⟨0, 9, 12, 19⟩ [⟨0, 9, 15, 13⟩, ⟨0, 9, 18, 60⟩] (by rw [hTb]; rfl) (fun z hz => nomatch hz) rfl (by decide) cl_RL_19 (fun q8 => ?_)
      refine k_astX_n (lv' := [(0, rf b a0), (1, iv x1), (2, rf b a2)]) C dL_flat_12 rfl hl (by decide) rfl (fun ls hl => ?_)
      refine j_iconst C dL_flat_13 ?_
      exact j_iret C dL_flat_14 hr (by decide) h
    rw [if_neg b0] at h
    by_cases b1 : q9.1.1 = 2
    · rw [if_pos b1] at h
      refine j_caught C hN hr9 b1 (by decide) [⟨0, 9, 12, 19⟩] ⟨0, 9, 15, 13⟩ [⟨0, 9, 18, 60⟩] (by rw [hTb]; rfl) (by intro z hz; simp only [List.mem_cons, List.not_mem_nil, or_false] at hz; rcases hz with rfl <;> first | exact ⟨(by decide), 1, by decide, by decide, by decide, cl_RL_19⟩) rfl (by decide) cl_RL_13 (fun q8 => ?_)
      refine k_astX_n (lv' := [(0, rf b a0), (1, iv x1), (2, rf b a2)]) C dL_flat_15 rfl hl (by decide) rfl (fun ls hl => ?_)
      refine j_iconst C dL_flat_16 ?_
      exact j_iret C dL_flat_17 hr (by decide) h
    rw [if_neg b1] at h
    by_cases b2 : q9.1.1 = 4
    · rw [if_pos b2] at h
      refine j_caught C hN hr9 b2 (by decide) [⟨0, 9, 12, 19⟩, ⟨0, 9, 15, 13⟩] ⟨0, 9, 18, 60⟩ [] (by rw [hTb]; rfl) (by intro z hz; simp only [List.mem_cons, List.not_mem_nil, or_false] at hz; rcases hz with rfl | rfl <;> first | exact ⟨(by decide), 1, by decide, by decide, by decide, cl_RL_19⟩ | exact ⟨(by decide), 2, by decide, by decide, by decide, cl_RL_13⟩) rfl (by decide) cl_RL_60 (fun q8 => ?_)
      refine k_astX_n (lv' := [(0, rf b a0), (1, iv x1), (2, rf b a2)]) C dL_flat_18 rfl hl (by decide) rfl (fun ls hl => ?_)
      refine j_iconst C dL_flat_19 ?_
      exact j_iret C dL_flat_20 hr (by decide) h
    rw [if_neg b2] at h
    cases h
noncomputable def f_L_path (a0 : Option Nat) (x1 : Int) (x2 : Int) (x3 : Int) (a4 : Option Nat) (S : AS) : Option RS :=
  gd (isK S a0 6) <|
  cHf (f_X5_path a0 x1 x2 x3 S) (fun k9 S9 => if k9 = 1 then rI 1 S9 else none) fun v2 S1 =>
  (sI S1 a4 13 0 v2).bind fun S4 =>
  rI 0 S4
set_option maxHeartbeats 4000000 in
set_option maxRecDepth 100000 in
theorem m_L_path {l : Launch} {b : Nat} {D : va_G} {dA : Nat → ClassId} (hst : l.stackTraces = false) {a0 : Option Nat} {x1 : Int} {x2 : Int} {x3 : Int} {a4 : Option Nat} {S : AS} {q : RS} (hx1 : inR x1) (hx2 : inR x2) (hx3 : inR x3) (h : f_L_path a0 x1 x2 x3 a4 S = some q) : hp_MW l b D dA yL_path cL_path 6 (some .int) [(0, 12, 15, 19)] 9 155 [rf b a0, iv x1, iv x2, iv x3, rf b a4] S 1 q := by
  have hcat : ∀ v ∈ ([rf b a0, iv x1, iv x2, iv x3, rf b a4] : List Value), v.category = 1 := (by intro v hv; simp only [List.mem_cons, List.not_mem_nil, or_false] at hv; rcases hv with rfl | rfl | rfl | rfl | rfl <;> first | exact cat_iv _ | exact cat_rf _ _)
  refine hp_ofJW (own := RL) hst (by decide +kernel) rfl hcat (Nat.le_of_ble_eq_true rfl) ?_
  intro p e R s m args below meth c C hTb hN hr ls hl9
  have hl : hp_L ls 6 [(0, rf b a0), (1, iv x1), (2, iv x2), (3, iv x3), (4, rf b a4)] := hp_L.of hl9 hcat
  unfold f_L_path at h
  refine j_aload C dL_path_0 (hl.at 4 rfl) ?_
  refine j_iconst C dL_path_2 ?_
  refine j_aload_n C dL_path_3 rfl (hl.at 0 rfl) ?_
  refine j_iload_n C dL_path_4 rfl (hl.at 1 rfl) ?_
  refine j_iload_n C dL_path_5 rfl (hl.at 2 rfl) ?_
  refine j_iload_n C dL_path_6 rfl (hl.at 3 rfl) ?_
  obtain ⟨c3, h⟩ := gd_some h
  rcases cH_some h with ⟨S1, v2, wv2, hc, h⟩ | ⟨q9, hc, hne, h⟩
  · refine j_callI C (run_W (As := [iv x1, iv x2, iv x3]) (rest := [iv 0, rf b a4]) C (m_X5_path hst hx1 hx2 hx3 hc) cv_RL_62 (by decide) rfl c3 rfl hl (by simp [cat_iv, cat_rf]) (by decide) (by decide) dL_path_7) (fun hv2 => ?_)
    refine j_i2l C dL_path_10 hv2 ?_
    obtain ⟨S4, g_S4, h⟩ := bd h
    refine j_last C dL_path_11 (by decide) hv2 g_S4 ?_
    refine j_goto (tgt := 19) C dL_path_12 (by decide) ?_
    refine j_iconst C dL_path_19 ?_
    exact j_iret C dL_path_20 hr (by decide) h
  · have hr9 := run_W (As := [iv x1, iv x2, iv x3]) (rest := [iv 0, rf b a4]) C (m_X5_path hst hx1 hx2 hx3 hc) cv_RL_62 (by decide) rfl c3 rfl hl (by simp [cat_iv, cat_rf]) (by decide) (by decide) dL_path_7
    by_cases b0 : q9.1.1 = 1
    · rw [if_pos b0] at h
      refine j_caught C hN hr9 b0 (by decide) [] ⟨0, 12, 15, 19⟩ [] (by rw [hTb]; rfl) (fun z hz => nomatch hz) rfl (by decide) cl_RL_19 (fun q8 => ?_)
      refine k_astX (lv' := [(0, rf b a0), (1, iv x1), (2, iv x2), (3, iv x3), (4, rf b a4)]) C dL_path_15 hl (by decide) rfl (fun ls hl => ?_)
      refine j_iconst C dL_path_17 ?_
      exact j_iret C dL_path_18 hr (by decide) h
    rw [if_neg b0] at h
    cases h
noncomputable def f_L_doubled (a0 : Option Nat) (x1 : Int) (x2 : Int) (a3 : Option Nat) (S : AS) : Option RS :=
  gd (isK S a0 6) <|
  cHf (f_X5_doubled a0 x1 x2 S) (fun k9 S9 => if k9 = 1 then rI 1 S9 else none) fun v2 S1 =>
  (sI S1 a3 13 0 v2).bind fun S4 =>
  rI 0 S4
set_option maxHeartbeats 4000000 in
set_option maxRecDepth 100000 in
theorem m_L_doubled {l : Launch} {b : Nat} {D : va_G} {dA : Nat → ClassId} (hst : l.stackTraces = false) {a0 : Option Nat} {x1 : Int} {x2 : Int} {a3 : Option Nat} {S : AS} {q : RS} (hx1 : inR x1) (hx2 : inR x2) (h : f_L_doubled a0 x1 x2 a3 S = some q) : hp_MW l b D dA yL_doubled cL_doubled 5 (some .int) [(0, 10, 13, 19)] 10 153 [rf b a0, iv x1, iv x2, rf b a3] S 1 q := by
  have hcat : ∀ v ∈ ([rf b a0, iv x1, iv x2, rf b a3] : List Value), v.category = 1 := (by intro v hv; simp only [List.mem_cons, List.not_mem_nil, or_false] at hv; rcases hv with rfl | rfl | rfl | rfl <;> first | exact cat_iv _ | exact cat_rf _ _)
  refine hp_ofJW (own := RL) hst (by decide +kernel) rfl hcat (Nat.le_of_ble_eq_true rfl) ?_
  intro p e R s m args below meth c C hTb hN hr ls hl9
  have hl : hp_L ls 5 [(0, rf b a0), (1, iv x1), (2, iv x2), (3, rf b a3)] := hp_L.of hl9 hcat
  unfold f_L_doubled at h
  refine j_aload_n C dL_doubled_0 rfl (hl.at 3 rfl) ?_
  refine j_iconst C dL_doubled_1 ?_
  refine j_aload_n C dL_doubled_2 rfl (hl.at 0 rfl) ?_
  refine j_iload_n C dL_doubled_3 rfl (hl.at 1 rfl) ?_
  refine j_iload_n C dL_doubled_4 rfl (hl.at 2 rfl) ?_
  obtain ⟨c3, h⟩ := gd_some h
  rcases cH_some h with ⟨S1, v2, wv2, hc, h⟩ | ⟨q9, hc, hne, h⟩
  · refine j_callI C (run_W (As := [iv x1, iv x2]) (rest := [iv 0, rf b a3]) C (m_X5_doubled hst hx1 hx2 hc) cv_RL_65 (by decide) rfl c3 rfl hl (by simp [cat_iv, cat_rf]) (by decide) (by decide) dL_doubled_5) (fun hv2 => ?_)
    refine j_i2l C dL_doubled_8 hv2 ?_
    obtain ⟨S4, g_S4, h⟩ := bd h
    refine j_last C dL_doubled_9 (by decide) hv2 g_S4 ?_
    refine j_goto (tgt := 17) C dL_doubled_10 (by decide) ?_
    refine j_iconst C dL_doubled_17 ?_
    exact j_iret C dL_doubled_18 hr (by decide) h
  · have hr9 := run_W (As := [iv x1, iv x2]) (rest := [iv 0, rf b a3]) C (m_X5_doubled hst hx1 hx2 hc) cv_RL_65 (by decide) rfl c3 rfl hl (by simp [cat_iv, cat_rf]) (by decide) (by decide) dL_doubled_5
    by_cases b0 : q9.1.1 = 1
    · rw [if_pos b0] at h
      refine j_caught C hN hr9 b0 (by decide) [] ⟨0, 10, 13, 19⟩ [] (by rw [hTb]; rfl) (fun z hz => nomatch hz) rfl (by decide) cl_RL_19 (fun q8 => ?_)
      refine k_astX (lv' := [(0, rf b a0), (1, iv x1), (2, iv x2), (3, rf b a3)]) C dL_doubled_13 hl (by decide) rfl (fun ls hl => ?_)
      refine j_iconst C dL_doubled_15 ?_
      exact j_iret C dL_doubled_16 hr (by decide) h
    rw [if_neg b0] at h
    cases h
noncomputable def f_L_open (a0 : Option Nat) (x1 : Int) (x2 : Int) (a3 : Option Nat) (S : AS) : Option RS :=
  gd (isK S a0 6) <|
  cHf (f_X5_open a0 x1 x2 S) (fun k9 S9 => if k9 = 1 then rI 1 S9 else none) fun v2 S1 =>
  (sI S1 a3 13 0 v2).bind fun S4 =>
  rI 0 S4
set_option maxHeartbeats 4000000 in
set_option maxRecDepth 100000 in
theorem m_L_open {l : Launch} {b : Nat} {D : va_G} {dA : Nat → ClassId} (hst : l.stackTraces = false) {a0 : Option Nat} {x1 : Int} {x2 : Int} {a3 : Option Nat} {S : AS} {q : RS} (hx1 : inR x1) (hx2 : inR x2) (h : f_L_open a0 x1 x2 a3 S = some q) : hp_MW l b D dA yL_open cL_open 5 (some .int) [(0, 10, 13, 19)] 10 153 [rf b a0, iv x1, iv x2, rf b a3] S 1 q := by
  have hcat : ∀ v ∈ ([rf b a0, iv x1, iv x2, rf b a3] : List Value), v.category = 1 := (by intro v hv; simp only [List.mem_cons, List.not_mem_nil, or_false] at hv; rcases hv with rfl | rfl | rfl | rfl <;> first | exact cat_iv _ | exact cat_rf _ _)
  refine hp_ofJW (own := RL) hst (by decide +kernel) rfl hcat (Nat.le_of_ble_eq_true rfl) ?_
  intro p e R s m args below meth c C hTb hN hr ls hl9
  have hl : hp_L ls 5 [(0, rf b a0), (1, iv x1), (2, iv x2), (3, rf b a3)] := hp_L.of hl9 hcat
  unfold f_L_open at h
  refine j_aload_n C dL_open_0 rfl (hl.at 3 rfl) ?_
  refine j_iconst C dL_open_1 ?_
  refine j_aload_n C dL_open_2 rfl (hl.at 0 rfl) ?_
  refine j_iload_n C dL_open_3 rfl (hl.at 1 rfl) ?_
  refine j_iload_n C dL_open_4 rfl (hl.at 2 rfl) ?_
  obtain ⟨c3, h⟩ := gd_some h
  rcases cH_some h with ⟨S1, v2, wv2, hc, h⟩ | ⟨q9, hc, hne, h⟩
  · refine j_callI C (run_W (As := [iv x1, iv x2]) (rest := [iv 0, rf b a3]) C (m_X5_open hst hx1 hx2 hc) cv_RL_68 (by decide) rfl c3 rfl hl (by simp [cat_iv, cat_rf]) (by decide) (by decide) dL_open_5) (fun hv2 => ?_)
    refine j_i2l C dL_open_8 hv2 ?_
    obtain ⟨S4, g_S4, h⟩ := bd h
    refine j_last C dL_open_9 (by decide) hv2 g_S4 ?_
    refine j_goto (tgt := 17) C dL_open_10 (by decide) ?_
    refine j_iconst C dL_open_17 ?_
    exact j_iret C dL_open_18 hr (by decide) h
  · have hr9 := run_W (As := [iv x1, iv x2]) (rest := [iv 0, rf b a3]) C (m_X5_open hst hx1 hx2 hc) cv_RL_68 (by decide) rfl c3 rfl hl (by simp [cat_iv, cat_rf]) (by decide) (by decide) dL_open_5
    by_cases b0 : q9.1.1 = 1
    · rw [if_pos b0] at h
      refine j_caught C hN hr9 b0 (by decide) [] ⟨0, 10, 13, 19⟩ [] (by rw [hTb]; rfl) (fun z hz => nomatch hz) rfl (by decide) cl_RL_19 (fun q8 => ?_)
      refine k_astX (lv' := [(0, rf b a0), (1, iv x1), (2, iv x2), (3, rf b a3)]) C dL_open_13 hl (by decide) rfl (fun ls hl => ?_)
      refine j_iconst C dL_open_15 ?_
      exact j_iret C dL_open_16 hr (by decide) h
    rw [if_neg b0] at h
    cases h
noncomputable def f_L_alike (a0 : Option Nat) (x1 : Int) (x2 : Int) (a3 : Option Nat) (S : AS) : Option RS :=
  gd (isK S a0 6) <|
  cHf (f_X5_alike a0 x1 x2 S) (fun k9 S9 => if k9 = 1 then rI 1 S9 else none) fun v2 S1 =>
  if v2 = 0 then
    (sI S1 a3 13 0 0).bind fun S4 =>
    rI 0 S4
  else
    (sI S1 a3 13 0 1).bind fun S5 =>
    rI 0 S5
set_option maxHeartbeats 4000000 in
set_option maxRecDepth 100000 in
theorem m_L_alike {l : Launch} {b : Nat} {D : va_G} {dA : Nat → ClassId} (hst : l.stackTraces = false) {a0 : Option Nat} {x1 : Int} {x2 : Int} {a3 : Option Nat} {S : AS} {q : RS} (hx1 : inR x1) (hx2 : inR x2) (h : f_L_alike a0 x1 x2 a3 S = some q) : hp_MW l b D dA yL_alike cL_alike 5 (some .int) [(0, 17, 20, 19)] 39 804 [rf b a0, iv x1, iv x2, rf b a3] S 1 q := by
  have hcat : ∀ v ∈ ([rf b a0, iv x1, iv x2, rf b a3] : List Value), v.category = 1 := (by intro v hv; simp only [List.mem_cons, List.not_mem_nil, or_false] at hv; rcases hv with rfl | rfl | rfl | rfl <;> first | exact cat_iv _ | exact cat_rf _ _)
  refine hp_ofJW (own := RL) hst (by decide +kernel) rfl hcat (Nat.le_of_ble_eq_true rfl) ?_
  intro p e R s m args below meth c C hTb hN hr ls hl9
  have hl : hp_L ls 5 [(0, rf b a0), (1, iv x1), (2, iv x2), (3, rf b a3)] := hp_L.of hl9 hcat
  unfold f_L_alike at h
  refine j_aload_n C dL_alike_0 rfl (hl.at 3 rfl) ?_
  refine j_iconst C dL_alike_1 ?_
  refine j_aload_n C dL_alike_2 rfl (hl.at 0 rfl) ?_
  refine j_iload_n C dL_alike_3 rfl (hl.at 1 rfl) ?_
  refine j_iload_n C dL_alike_4 rfl (hl.at 2 rfl) ?_
  obtain ⟨c3, h⟩ := gd_some h
  rcases cH_some h with ⟨S1, v2, wv2, hc, h⟩ | ⟨q9, hc, hne, h⟩
  · refine j_callI C (run_W (As := [iv x1, iv x2]) (rest := [iv 0, rf b a3]) C (m_X5_alike hst hx1 hx2 hc) cv_RL_71 (by decide) rfl c3 rfl hl (by simp [cat_iv, cat_rf]) (by decide) (by decide) dL_alike_5) (fun hv2 => ?_)
    refine j_if_eq (tgt := 15) C dL_alike_8 (by decide) hv2 (fun b1 => ?_) (fun b1 => ?_)
    · rw [if_pos b1] at h
      refine j_lconst (x := 0) C dL_alike_15 (by decide) ?_
      obtain ⟨S4, g_S4, h⟩ := bd h
      refine j_last C dL_alike_16 (by decide) (by decide) g_S4 ?_
      refine j_goto (tgt := 24) C dL_alike_17 (by decide) ?_
      refine j_iconst C dL_alike_24 ?_
      exact j_iret C dL_alike_25 hr (by decide) h
    · rw [if_neg b1] at h
      refine j_lconst (x := 1) C dL_alike_11 (by decide) ?_
      refine j_goto (tgt := 16) C dL_alike_12 (by decide) ?_
      obtain ⟨S5, g_S5, h⟩ := bd h
      refine j_last C dL_alike_16 (by decide) (by decide) g_S5 ?_
      refine j_goto (tgt := 24) C dL_alike_17 (by decide) ?_
      refine j_iconst C dL_alike_24 ?_
      exact j_iret C dL_alike_25 hr (by decide) h
  · have hr9 := run_W (As := [iv x1, iv x2]) (rest := [iv 0, rf b a3]) C (m_X5_alike hst hx1 hx2 hc) cv_RL_71 (by decide) rfl c3 rfl hl (by simp [cat_iv, cat_rf]) (by decide) (by decide) dL_alike_5
    by_cases b0 : q9.1.1 = 1
    · rw [if_pos b0] at h
      refine j_caught C hN hr9 b0 (by decide) [] ⟨0, 17, 20, 19⟩ [] (by rw [hTb]; rfl) (fun z hz => nomatch hz) rfl (by decide) cl_RL_19 (fun q8 => ?_)
      refine k_astX (lv' := [(0, rf b a0), (1, iv x1), (2, iv x2), (3, rf b a3)]) C dL_alike_20 hl (by decide) rfl (fun ls hl => ?_)
      refine j_iconst C dL_alike_22 ?_
      exact j_iret C dL_alike_23 hr (by decide) h
    rw [if_neg b0] at h
    cases h
noncomputable def f_L_count (a0 : Option Nat) (x1 : Int) (x2 : Int) (a3 : Option Nat) (S : AS) : Option RS :=
  gd (isK S a0 6) <|
  cHf (f_X5_count a0 x1 x2 S) (fun k9 S9 => if k9 = 1 then rI 1 S9 else none) fun v2 S1 =>
  (sI S1 a3 13 0 v2).bind fun S4 =>
  rI 0 S4
set_option maxHeartbeats 4000000 in
set_option maxRecDepth 100000 in
theorem m_L_count {l : Launch} {b : Nat} {D : va_G} {dA : Nat → ClassId} (hst : l.stackTraces = false) {a0 : Option Nat} {x1 : Int} {x2 : Int} {a3 : Option Nat} {S : AS} {q : RS} (hx1 : inR x1) (hx2 : inR x2) (h : f_L_count a0 x1 x2 a3 S = some q) : hp_MW l b D dA yL_count cL_count 5 (some .int) [(0, 10, 13, 19)] 41 849 [rf b a0, iv x1, iv x2, rf b a3] S 1 q := by
  have hcat : ∀ v ∈ ([rf b a0, iv x1, iv x2, rf b a3] : List Value), v.category = 1 := (by intro v hv; simp only [List.mem_cons, List.not_mem_nil, or_false] at hv; rcases hv with rfl | rfl | rfl | rfl <;> first | exact cat_iv _ | exact cat_rf _ _)
  refine hp_ofJW (own := RL) hst (by decide +kernel) rfl hcat (Nat.le_of_ble_eq_true rfl) ?_
  intro p e R s m args below meth c C hTb hN hr ls hl9
  have hl : hp_L ls 5 [(0, rf b a0), (1, iv x1), (2, iv x2), (3, rf b a3)] := hp_L.of hl9 hcat
  unfold f_L_count at h
  refine j_aload_n C dL_count_0 rfl (hl.at 3 rfl) ?_
  refine j_iconst C dL_count_1 ?_
  refine j_aload_n C dL_count_2 rfl (hl.at 0 rfl) ?_
  refine j_iload_n C dL_count_3 rfl (hl.at 1 rfl) ?_
  refine j_iload_n C dL_count_4 rfl (hl.at 2 rfl) ?_
  obtain ⟨c3, h⟩ := gd_some h
  rcases cH_some h with ⟨S1, v2, wv2, hc, h⟩ | ⟨q9, hc, hne, h⟩
  · refine j_callI C (run_W (As := [iv x1, iv x2]) (rest := [iv 0, rf b a3]) C (m_X5_count hst hx1 hx2 hc) cv_RL_74 (by decide) rfl c3 rfl hl (by simp [cat_iv, cat_rf]) (by decide) (by decide) dL_count_5) (fun hv2 => ?_)
    refine j_i2l C dL_count_8 hv2 ?_
    obtain ⟨S4, g_S4, h⟩ := bd h
    refine j_last C dL_count_9 (by decide) hv2 g_S4 ?_
    refine j_goto (tgt := 17) C dL_count_10 (by decide) ?_
    refine j_iconst C dL_count_17 ?_
    exact j_iret C dL_count_18 hr (by decide) h
  · have hr9 := run_W (As := [iv x1, iv x2]) (rest := [iv 0, rf b a3]) C (m_X5_count hst hx1 hx2 hc) cv_RL_74 (by decide) rfl c3 rfl hl (by simp [cat_iv, cat_rf]) (by decide) (by decide) dL_count_5
    by_cases b0 : q9.1.1 = 1
    · rw [if_pos b0] at h
      refine j_caught C hN hr9 b0 (by decide) [] ⟨0, 10, 13, 19⟩ [] (by rw [hTb]; rfl) (fun z hz => nomatch hz) rfl (by decide) cl_RL_19 (fun q8 => ?_)
      refine k_astX (lv' := [(0, rf b a0), (1, iv x1), (2, iv x2), (3, rf b a3)]) C dL_count_13 hl (by decide) rfl (fun ls hl => ?_)
      refine j_iconst C dL_count_15 ?_
      exact j_iret C dL_count_16 hr (by decide) h
    rw [if_neg b0] at h
    cases h
noncomputable def f_L_moduleOf (a0 : Option Nat) (x1 : Int) (x2 : Int) (a3 : Option Nat) (S : AS) : Option RS :=
  gd (isK S a0 6) <|
  cHf (f_X5_moduleOf a0 x1 x2 S) (fun k9 S9 => if k9 = 1 then rI 1 S9 else none) fun v2 S1 =>
  (sI S1 a3 13 0 v2).bind fun S4 =>
  rI 0 S4
set_option maxHeartbeats 4000000 in
set_option maxRecDepth 100000 in
theorem m_L_moduleOf {l : Launch} {b : Nat} {D : va_G} {dA : Nat → ClassId} (hst : l.stackTraces = false) {a0 : Option Nat} {x1 : Int} {x2 : Int} {a3 : Option Nat} {S : AS} {q : RS} (hx1 : inR x1) (hx2 : inR x2) (h : f_L_moduleOf a0 x1 x2 a3 S = some q) : hp_MW l b D dA yL_moduleOf cL_moduleOf 5 (some .int) [(0, 10, 13, 19)] 9 153 [rf b a0, iv x1, iv x2, rf b a3] S 1 q := by
  have hcat : ∀ v ∈ ([rf b a0, iv x1, iv x2, rf b a3] : List Value), v.category = 1 := (by intro v hv; simp only [List.mem_cons, List.not_mem_nil, or_false] at hv; rcases hv with rfl | rfl | rfl | rfl <;> first | exact cat_iv _ | exact cat_rf _ _)
  refine hp_ofJW (own := RL) hst (by decide +kernel) rfl hcat (Nat.le_of_ble_eq_true rfl) ?_
  intro p e R s m args below meth c C hTb hN hr ls hl9
  have hl : hp_L ls 5 [(0, rf b a0), (1, iv x1), (2, iv x2), (3, rf b a3)] := hp_L.of hl9 hcat
  unfold f_L_moduleOf at h
  refine j_aload_n C dL_moduleOf_0 rfl (hl.at 3 rfl) ?_
  refine j_iconst C dL_moduleOf_1 ?_
  refine j_aload_n C dL_moduleOf_2 rfl (hl.at 0 rfl) ?_
  refine j_iload_n C dL_moduleOf_3 rfl (hl.at 1 rfl) ?_
  refine j_iload_n C dL_moduleOf_4 rfl (hl.at 2 rfl) ?_
  obtain ⟨c3, h⟩ := gd_some h
  rcases cH_some h with ⟨S1, v2, wv2, hc, h⟩ | ⟨q9, hc, hne, h⟩
  · refine j_callI C (run_W (As := [iv x1, iv x2]) (rest := [iv 0, rf b a3]) C (m_X5_moduleOf hst hx1 hx2 hc) cv_RL_77 (by decide) rfl c3 rfl hl (by simp [cat_iv, cat_rf]) (by decide) (by decide) dL_moduleOf_5) (fun hv2 => ?_)
    refine j_i2l C dL_moduleOf_8 hv2 ?_
    obtain ⟨S4, g_S4, h⟩ := bd h
    refine j_last C dL_moduleOf_9 (by decide) hv2 g_S4 ?_
    refine j_goto (tgt := 17) C dL_moduleOf_10 (by decide) ?_
    refine j_iconst C dL_moduleOf_17 ?_
    exact j_iret C dL_moduleOf_18 hr (by decide) h
  · have hr9 := run_W (As := [iv x1, iv x2]) (rest := [iv 0, rf b a3]) C (m_X5_moduleOf hst hx1 hx2 hc) cv_RL_77 (by decide) rfl c3 rfl hl (by simp [cat_iv, cat_rf]) (by decide) (by decide) dL_moduleOf_5
    by_cases b0 : q9.1.1 = 1
    · rw [if_pos b0] at h
      refine j_caught C hN hr9 b0 (by decide) [] ⟨0, 10, 13, 19⟩ [] (by rw [hTb]; rfl) (fun z hz => nomatch hz) rfl (by decide) cl_RL_19 (fun q8 => ?_)
      refine k_astX (lv' := [(0, rf b a0), (1, iv x1), (2, iv x2), (3, rf b a3)]) C dL_moduleOf_13 hl (by decide) rfl (fun ls hl => ?_)
      refine j_iconst C dL_moduleOf_15 ?_
      exact j_iret C dL_moduleOf_16 hr (by decide) h
    rw [if_neg b0] at h
    cases h
