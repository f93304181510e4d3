/-! adding that goes round (a counter that begins at any int) -/
def wz (x : Int) : Int := (Int32.ofInt x).toInt
theorem wz_in (x : Int) : inR (wz x) := ⟨Int32.le_toInt _, Int32.toInt_le _⟩
theorem ofInt_wz (x : Int) : Int32.ofInt (wz x) = Int32.ofInt x := Int32.ofInt_toInt _
theorem wz_ok {x : Int} (h : inR x) : wz x = x := iv_toInt h
section J
variable {p : Program} {l : Launch} {e : Env} {R : Room} {s : State} {m : MethodId} {args : Array Value} {below : List Frame} {meth : Method} {c : Code}
variable {b : Nat} {D : va_G} {dA : Nat → ClassId} {S0 S S' : AS} {Q : State → Prop} {own : String} {cc : ByteArray} {nL pc fr lo : Nat} {ls : Array Slot} {st : List Value}
theorem k_iincw (C : hp_C p l e R s m args below meth c b D dA S0 own cc nL fr lo) {i k9 : Nat} {n x z : Int} {lv lv' : List (Nat × Value)} (d : decode cc pc = .ok (.iinc i n, 3)) (h : hp_L ls nL lv) (hk9 : lv[k9]? = some (i, iv x)) (hz : some (wz (x + n)) = some z) (hn9 : i < nL) (hl : (i, iv z) :: lv.filter (fun q => !(q.1 == i)) = lv') (k : inR z → ∀ ls' : Array Slot, hp_L ls' nL lv' → hp_J p l e R s m args below meth c b D dA S0 Q S (pc + 3) ls' st) : hp_J p l e R s m args below meth c b D dA S0 Q S pc ls st := by
  cases hz
  exact fun H locs h1 h2 h3 h4 => lv_iinc C.1 C.2.1 d h.1 hk9 ((Int32.ofInt_add _ _).symm.trans (ofInt_wz _).symm) hn9 (h.put (ls' := ls) (cat_iv _) hl).1 (fun ls' hl' => k (wz_in _) ls' ((h.put (cat_iv _) hl).2 hl') H locs h1 h2 h3 h4)
end J
noncomputable def f_X5_requireWithin (x0 : Int) (x1 : Int) (S : AS) : Option RS :=
  if x0 < 0 then
    rX 1 S
  else
    if x0 < x1 then
      rV S
    else
      rX 1 S
set_option maxHeartbeats 4000000 in
set_option maxRecDepth 100000 in
theorem m_X5_requireWithin {l : Launch} {b : Nat} {D : va_G} {dA : Nat → ClassId} (hst : l.stackTraces = false) {x0 : Int} {x1 : Int} {S : AS} {q : RS} (hx0 : inR x0) (hx1 : inR x1) (h : f_X5_requireWithin x0 x1 S = some q) : hp_M l b D dA yX5_requireWithin cX5_requireWithin 2 none 6 89 [iv x0, iv x1] S 0 q := by
  have hcat : ∀ v ∈ ([iv x0, iv x1] : List Value), v.category = 1 := (by intro v hv; simp only [List.mem_cons, List.not_mem_nil, or_false] at hv; rcases hv with rfl | rfl <;> first | exact cat_iv _ | exact cat_rf _ _)
  refine hp_ofJ (own := RX5) hst (by decide +kernel) rfl hcat (Nat.le_of_ble_eq_true rfl) ?_
  intro p e R s m args below meth c C hT hnm hr ls hl9
  have hl : hp_L ls 2 [(0, iv x0), (1, iv x1)] := hp_L.of hl9 hcat
  unfold f_X5_requireWithin at h
  refine j_iload_n C dX5_requireWithin_0 rfl (hl.at 0 rfl) ?_
  refine j_if_lt (tgt := 9) C dX5_requireWithin_1 (by decide) hx0 (fun b1 => ?_) (fun b1 => ?_)
  · rw [if_pos b1] at h
    exact j_throw C hT tw_RX5_141 dX5_requireWithin_9 dX5_requireWithin_12 dX5_requireWithin_13 dX5_requireWithin_16 hl.1.1 (by decide) (by decide) h
  · rw [if_neg b1] at h
    refine j_iload_n C dX5_requireWithin_4 rfl (hl.at 0 rfl) ?_
    refine j_iload_n C dX5_requireWithin_5 rfl (hl.at 1 rfl) ?_
    refine j_icmp_lt (tgt := 17) C dX5_requireWithin_6 (by decide) hx0 hx1 (fun b1 => ?_) (fun b1 => ?_)
    · rw [if_pos b1] at h
      exact j_vret C dX5_requireWithin_17 hr h
    · rw [if_neg b1] at h
      exact j_throw C hT tw_RX5_141 dX5_requireWithin_9 dX5_requireWithin_12 dX5_requireWithin_13 dX5_requireWithin_16 hl.1.1 (by decide) (by decide) h
noncomputable def f_X5_requireNet (a0 : Option Nat) (x1 : Int) (S : AS) : Option RS :=
  (gR S a0 5 6).bind fun o1 =>
  (gI S o1 1 3).bind fun v2 =>
  cV (f_X5_requireWithin x1 v2 S) fun S3 =>
  rV S3
set_option maxHeartbeats 4000000 in
set_option maxRecDepth 100000 in
theorem m_X5_requireNet {l : Launch} {b : Nat} {D : va_G} {dA : Nat → ClassId} (hst : l.stackTraces = false) {a0 : Option Nat} {x1 : Int} {S : AS} {q : RS} (hx1 : inR x1) (h : f_X5_requireNet a0 x1 S = some q) : hp_M l b D dA yX5_requireNet cX5_requireNet 2 none 7 110 [rf b a0, iv x1] S 0 q := by
  have hcat : ∀ v ∈ ([rf b a0, iv x1] : List Value), v.category = 1 := (by intro v hv; simp only [List.mem_cons, List.not_mem_nil, or_false] at hv; rcases hv with rfl | rfl <;> first | exact cat_iv _ | exact cat_rf _ _)
  refine hp_ofJ (own := RX5) hst (by decide +kernel) rfl hcat (Nat.le_of_ble_eq_true rfl) ?_
  intro p e R s m args below meth c C hT hnm hr ls hl9
  have hl : hp_L ls 2 [(0, rf b a0), (1, iv x1)] := hp_L.of hl9 hcat
  unfold f_X5_requireNet at h
  refine j_iload_n C dX5_requireNet_0 rfl (hl.at 1 rfl) ?_
  refine j_aload_n C dX5_requireNet_1 rfl (hl.at 0 rfl) ?_
  obtain ⟨o1, g_o1, h⟩ := bd h
  refine j_gR C dX5_requireNet_2 fl_RX5_77 rfl g_o1 ?_
  obtain ⟨v2, g_v2, h⟩ := bd h
  refine j_gI C dX5_requireNet_5 fl_RX5_110 (Or.inl rfl) g_v2 (fun hv2 => ?_)
  rcases cV_some h with ⟨S3, y4, hc, h⟩ | ⟨hc, hne⟩
  · refine j_callV C (run_S (As := [iv x1, iv v2]) (rest := []) C (m_X5_requireWithin hst hx1 hv2 hc) cs_RX5_133 rfl hl.1.1 (by decide) (by decide) (by decide) dX5_requireNet_8) ?_
    exact j_vret C dX5_requireNet_11 hr h
  · exact j_thrown C hT (run_S (As := [iv x1, iv v2]) (rest := []) C (m_X5_requireWithin hst hx1 hv2 hc) cs_RX5_133 rfl hl.1.1 (by decide) (by decide) (by decide) dX5_requireNet_8) hne
noncomputable def f_X5_requireRoomForModule (a0 : Option Nat) (S : AS) : Option RS :=
  (gI S a0 6 1).bind fun v1 =>
  if v1 = 24 then
    rX 2 S
  else
    rV S
set_option maxHeartbeats 4000000 in
set_option maxRecDepth 100000 in
theorem m_X5_requireRoomForModule {l : Launch} {b : Nat} {D : va_G} {dA : Nat → ClassId} (hst : l.stackTraces = false) {a0 : Option Nat} {S : AS} {q : RS} (h : f_X5_requireRoomForModule a0 S = some q) : hp_M l b D dA yX5_requireRoomForModule cX5_requireRoomForModule 1 none 6 89 [rf b a0] S 0 q := by
  have hcat : ∀ v ∈ ([rf b a0] : List Value), v.category = 1 := (by intro v hv; simp only [List.mem_cons, List.not_mem_nil, or_false] at hv; rcases hv with rfl <;> first | exact cat_iv _ | exact cat_rf _ _)
  refine hp_ofJ (own := RX5) hst (by decide +kernel) rfl hcat (Nat.le_of_ble_eq_true rfl) ?_
  intro p e R s m args below meth c C hT hnm hr ls hl9
  have hl : hp_L ls 1 [(0, rf b a0)] := hp_L.of hl9 hcat
  unfold f_X5_requireRoomForModule at h
  refine j_aload_n C dX5_requireRoomForModule_0 rfl (hl.at 0 rfl) ?_
  obtain ⟨v1, g_v1, h⟩ := bd h
  refine j_gI C dX5_requireRoomForModule_1 fl_RX5_15 (Or.inl rfl) g_v1 (fun hv1 => ?_)
  refine j_bipush (x := 24) C dX5_requireRoomForModule_4 (by decide) ?_
  refine j_icmp_ne (tgt := 17) C dX5_requireRoomForModule_6 (by decide) hv1 (by decide) (fun b1 => ?_) (fun b1 => ?_)
  · rw [if_neg b1] at h
    exact j_vret C dX5_requireRoomForModule_17 hr h
  · rw [if_pos (Decidable.byContradiction b1)] at h
    exact j_throw C hT tw_RX5_67 dX5_requireRoomForModule_9 dX5_requireRoomForModule_12 dX5_requireRoomForModule_13 dX5_requireRoomForModule_16 hl.1.1 (by decide) (by decide) h
noncomputable def f_X5_shellAt (a0 : Option Nat) (x1 : Int) (S : AS) : Option RS :=
  (gI S a0 6 1).bind fun v1 =>
  cV (f_X5_requireWithin x1 v1 S) fun S2 =>
  (gR S2 a0 6 0).bind fun o4 =>
  (aR S2 o4 11 x1).bind fun o5 =>
  rR o5 S2
set_option maxHeartbeats 4000000 in
set_option maxRecDepth 100000 in
theorem m_X5_shellAt {l : Launch} {b : Nat} {D : va_G} {dA : Nat → ClassId} (hst : l.stackTraces = false) {a0 : Option Nat} {x1 : Int} {S : AS} {q : RS} (hx1 : inR x1) (h : f_X5_shellAt a0 x1 S = some q) : hp_M l b D dA yX5_shellAt cX5_shellAt 2 (some (.object "DesignTrees$Shell")) 7 110 [rf b a0, iv x1] S 2 q := by
  have hcat : ∀ v ∈ ([rf b a0, iv x1] : List Value), v.category = 1 := (by intro v hv; simp only [List.mem_cons, List.not_mem_nil, or_false] at hv; rcases hv with rfl | rfl <;> first | exact cat_iv _ | exact cat_rf _ _)
  refine hp_ofJ (own := RX5) hst (by decide +kernel) rfl hcat (Nat.le_of_ble_eq_true rfl) ?_
  intro p e R s m args below meth c C hT hnm hr ls hl9
  have hl : hp_L ls 2 [(0, rf b a0), (1, iv x1)] := hp_L.of hl9 hcat
  unfold f_X5_shellAt at h
  refine j_iload_n C dX5_shellAt_0 rfl (hl.at 1 rfl) ?_
  refine j_aload_n C dX5_shellAt_1 rfl (hl.at 0 rfl) ?_
  obtain ⟨v1, g_v1, h⟩ := bd h
  refine j_gI C dX5_shellAt_2 fl_RX5_15 (Or.inl rfl) g_v1 (fun hv1 => ?_)
  rcases cV_some h with ⟨S2, y3, hc, h⟩ | ⟨hc, hne⟩
  · refine j_callV C (run_S (As := [iv x1, iv v1]) (rest := []) C (m_X5_requireWithin hst hx1 hv1 hc) cs_RX5_133 rfl hl.1.1 (by decide) (by decide) (by decide) dX5_shellAt_5) ?_
    refine j_aload_n C dX5_shellAt_8 rfl (hl.at 0 rfl) ?_
    obtain ⟨o4, g_o4, h⟩ := bd h
    refine j_gR C dX5_shellAt_9 fl_RX5_11 rfl g_o4 ?_
    refine j_iload_n C dX5_shellAt_12 rfl (hl.at 1 rfl) ?_
    obtain ⟨o5, g_o5, h⟩ := bd h
    refine j_aald C dX5_shellAt_13 (by decide) hx1 g_o5 ?_
    exact j_aret C dX5_shellAt_14 hr rfl h
  · exact j_thrown C hT (run_S (As := [iv x1, iv v1]) (rest := []) C (m_X5_requireWithin hst hx1 hv1 hc) cs_RX5_133 rfl hl.1.1 (by decide) (by decide) (by decide) dX5_shellAt_5) hne
noncomputable def f_X5_placementAt (a0 : Option Nat) (x1 : Int) (S : AS) : Option RS :=
  (gR S a0 5 6).bind fun o1 =>
  (gI S o1 1 2).bind fun v2 =>
  cV (f_X5_requireWithin x1 v2 S) fun S3 =>
  (gR S3 a0 5 6).bind fun o5 =>
  (gR S3 o5 1 1).bind fun o6 =>
  (aR S3 o6 10 x1).bind fun o7 =>
  rR o7 S3
set_option maxHeartbeats 4000000 in
set_option maxRecDepth 100000 in
theorem m_X5_placementAt {l : Launch} {b : Nat} {D : va_G} {dA : Nat → ClassId} (hst : l.stackTraces = false) {a0 : Option Nat} {x1 : Int} {S : AS} {q : RS} (hx1 : inR x1) (h : f_X5_placementAt a0 x1 S = some q) : hp_M l b D dA yX5_placementAt cX5_placementAt 2 (some (.object "DesignTrees$Placement")) 7 110 [rf b a0, iv x1] S 2 q := by
  have hcat : ∀ v ∈ ([rf b a0, iv x1] : List Value), v.category = 1 := (by intro v hv; simp only [List.mem_cons, List.not_mem_nil, or_false] at hv; rcases hv with rfl | rfl <;> first | exact cat_iv _ | exact cat_rf _ _)
  refine hp_ofJ (own := RX5) hst (by decide +kernel) rfl hcat (Nat.le_of_ble_eq_true rfl) ?_
  intro p e R s m args below meth c C hT hnm hr ls hl9
  have hl : hp_L ls 2 [(0, rf b a0), (1, iv x1)] := hp_L.of hl9 hcat
  unfold f_X5_placementAt at h
  refine j_iload_n C dX5_placementAt_0 rfl (hl.at 1 rfl) ?_
  refine j_aload_n C dX5_placementAt_1 rfl (hl.at 0 rfl) ?_
  obtain ⟨o1, g_o1, h⟩ := bd h
  refine j_gR C dX5_placementAt_2 fl_RX5_77 rfl g_o1 ?_
  obtain ⟨v2, g_v2, h⟩ := bd h
  refine j_gI C dX5_placementAt_5 fl_RX5_81 (Or.inl rfl) g_v2 (fun hv2 => ?_)
  rcases cV_some h with ⟨S3, y4, hc, h⟩ | ⟨hc, hne⟩
  · refine j_callV C (run_S (As := [iv x1, iv v2]) (rest := []) C (m_X5_requireWithin hst hx1 hv2 hc) cs_RX5_133 rfl hl.1.1 (by decide) (by decide) (by decide) dX5_placementAt_8) ?_
    refine j_aload_n C dX5_placementAt_11 rfl (hl.at 0 rfl) ?_
    obtain ⟨o5, g_o5, h⟩ := bd h
    refine j_gR C dX5_placementAt_12 fl_RX5_77 rfl g_o5 ?_
    obtain ⟨o6, g_o6, h⟩ := bd h
    refine j_gR C dX5_placementAt_15 fl_RX5_209 rfl g_o6 ?_
    refine j_iload_n C dX5_placementAt_18 rfl (hl.at 1 rfl) ?_
    obtain ⟨o7, g_o7, h⟩ := bd h
    refine j_aald C dX5_placementAt_19 (by decide) hx1 g_o7 ?_
    exact j_aret C dX5_placementAt_20 hr rfl h
  · exact j_thrown C hT (run_S (As := [iv x1, iv v2]) (rest := []) C (m_X5_requireWithin hst hx1 hv2 hc) cs_RX5_133 rfl hl.1.1 (by decide) (by decide) (by decide) dX5_placementAt_8) hne
noncomputable def f_X5_addShell (a0 : Option Nat) (a1 : Option Nat) (S : AS) : Option RS :=
  (nO S 5).bind fun S1 =>
  (gI S1 a0 6 1).bind fun v2 =>
  cN (f_X4_init (some (hn S)) v2 a1 S1) fun S3 =>
  (gR S3 a0 6 0).bind fun o5 =>
  (gI S3 a0 6 1).bind fun v6 =>
  (sR S3 o5 11 v6 (some (hn S))).bind fun S7 =>
  (gI S7 a0 6 1).bind fun v8 =>
  (chk (v8 + 1)).bind fun z9 =>
  (pI S7 a0 6 1 z9).bind fun S10 =>
  rR (some (hn S)) S10
set_option maxHeartbeats 4000000 in
set_option maxRecDepth 100000 in
theorem m_X5_addShell {l : Launch} {b : Nat} {D : va_G} {dA : Nat → ClassId} (hst : l.stackTraces = false) {a0 : Option Nat} {a1 : Option Nat} {S : AS} {q : RS} (h : f_X5_addShell a0 a1 S = some q) : hp_M l b D dA yX5_addShell cX5_addShell 3 (some (.object "DesignTrees$Shell")) 7 42 [rf b a0, rf b a1] S 2 q := by
  have hcat : ∀ v ∈ ([rf b a0, rf b a1] : List Value), v.category = 1 := (by intro v hv; simp only [List.mem_cons, List.not_mem_nil, or_false] at hv; rcases hv with rfl | rfl <;> first | exact cat_iv _ | exact cat_rf _ _)
  refine hp_ofJ (own := RX5) hst (by decide +kernel) rfl hcat (Nat.le_of_ble_eq_true rfl) ?_
  intro p e R s m args below meth c C hT hnm hr ls hl9
  have hl : hp_L ls 3 [(0, rf b a0), (1, rf b a1)] := hp_L.of hl9 hcat
  unfold f_X5_addShell at h
  obtain ⟨S1, g_S1, h⟩ := bd h
  refine j_new C dX5_addShell_0 nw_RX5_9 g_S1 ?_
  refine j_dup C dX5_addShell_3 (cat_rf _ _) ?_
  refine j_aload_n C dX5_addShell_4 rfl (hl.at 0 rfl) ?_
  obtain ⟨v2, g_v2, h⟩ := bd h
  refine j_gI C dX5_addShell_5 fl_RX5_15 (Or.inl rfl) g_v2 (fun hv2 => ?_)
  refine j_aload_n C dX5_addShell_8 rfl (hl.at 1 rfl) ?_
  obtain ⟨S3, y4, hc, h⟩ := cN_some h
  refine j_callV C (run_I (As := [iv v2, rf b a1]) (rest := [rf b (some (hn S))]) C (m_X4_init hst hv2 hc) rfl ci_RX5_213 rfl hl.1.1 (by simp [cat_iv, cat_rf]) (by decide) (by decide) dX5_addShell_9) ?_
  refine k_astore_n (lv' := [(2, rf b (some (hn S))), (0, rf b a0), (1, rf b a1)]) C dX5_addShell_12 rfl hl (by decide) rfl (fun ls hl => ?_)
  refine j_aload_n C dX5_addShell_13 rfl (hl.at 1 rfl) ?_
  obtain ⟨o5, g_o5, h⟩ := bd h
  refine j_gR C dX5_addShell_14 fl_RX5_11 rfl g_o5 ?_
  refine j_aload_n C dX5_addShell_17 rfl (hl.at 1 rfl) ?_
  obtain ⟨v6, g_v6, h⟩ := bd h
  refine j_gI C dX5_addShell_18 fl_RX5_15 (Or.inl rfl) g_v6 (fun hv6 => ?_)
  refine j_aload_n C dX5_addShell_21 rfl (hl.at 0 rfl) ?_
  obtain ⟨S7, g_S7, h⟩ := bd h
  refine j_aast C dX5_addShell_22 (by decide) hv6 g_S7 ?_
  refine j_aload_n C dX5_addShell_23 rfl (hl.at 1 rfl) ?_
  refine j_dup C dX5_addShell_24 (cat_rf _ _) ?_
  obtain ⟨v8, g_v8, h⟩ := bd h
  refine j_gI C dX5_addShell_25 fl_RX5_15 (Or.inl rfl) g_v8 (fun hv8 => ?_)
  refine j_iconst C dX5_addShell_28 ?_
  obtain ⟨z9, g_z9, h⟩ := bd h
  refine j_iadd C dX5_addShell_29 g_z9 (fun hz9 => ?_)
  obtain ⟨S10, g_S10, h⟩ := bd h
  refine j_pI C dX5_addShell_30 fl_RX5_15 (Or.inl rfl) rfl hz9 g_S10 ?_
  refine j_aload_n C dX5_addShell_33 rfl (hl.at 0 rfl) ?_
  exact j_aret C dX5_addShell_34 hr rfl h
noncomputable def f_X5_insideToChange (a0 : Option Nat) (S : AS) : Option RS :=
  (gR S a0 5 6).bind fun o1 =>
  (gI S o1 1 4).bind fun v2 =>
  if v2 ≤ 1 then
    (gR S a0 5 6).bind fun o3 =>
    rR o3 S
  else
    (gR S a0 5 6).bind fun o4 =>
    (gI S o4 1 4).bind fun v5 =>
    (chk (v5 - 1)).bind fun z6 =>
    (pI S o4 1 4 z6).bind fun S7 =>
    (gR S7 a0 5 6).bind fun o8 =>
    gd (isK S7 o8 1) <|
    cR (f_X0_twin o8 S7) fun o10 S9 =>
    (pR S9 a0 5 6 o10).bind fun S12 =>
    (gR S12 a0 5 6).bind fun o13 =>
    rR o13 S12
set_option maxHeartbeats 4000000 in
set_option maxRecDepth 100000 in
theorem m_X5_insideToChange {l : Launch} {b : Nat} {D : va_G} {dA : Nat → ClassId} (hst : l.stackTraces = false) {a0 : Option Nat} {S : AS} {q : RS} (h : f_X5_insideToChange a0 S = some q) : hp_M l b D dA yX5_insideToChange cX5_insideToChange 1 (some (.object "DesignTrees$Inside")) 9 103 [rf b a0] S 2 q := by
  have hcat : ∀ v ∈ ([rf b a0] : List Value), v.category = 1 := (by intro v hv; simp only [List.mem_cons, List.not_mem_nil, or_false] at hv; rcases hv with rfl <;> first | exact cat_iv _ | exact cat_rf _ _)
  refine hp_ofJ (own := RX5) hst (by decide +kernel) rfl hcat (Nat.le_of_ble_eq_true rfl) ?_
  intro p e R s m args below meth c C hT hnm hr ls hl9
  have hl : hp_L ls 1 [(0, rf b a0)] := hp_L.of hl9 hcat
  unfold f_X5_insideToChange at h
  refine j_aload_n C dX5_insideToChange_0 rfl (hl.at 0 rfl) ?_
  obtain ⟨o1, g_o1, h⟩ := bd h
  refine j_gR C dX5_insideToChange_1 fl_RX5_77 rfl g_o1 ?_
  obtain ⟨v2, g_v2, h⟩ := bd h
  refine j_gI C dX5_insideToChange_4 fl_RX5_148 (Or.inl rfl) g_v2 (fun hv2 => ?_)
  refine j_iconst C dX5_insideToChange_7 ?_
  refine j_icmp_le (tgt := 35) C dX5_insideToChange_8 (by decide) hv2 (by decide) (fun b1 => ?_) (fun b1 => ?_)
  · rw [if_pos b1] at h
    refine j_aload_n C dX5_insideToChange_35 rfl (hl.at 0 rfl) ?_
    obtain ⟨o3, g_o3, h⟩ := bd h
    refine j_gR C dX5_insideToChange_36 fl_RX5_77 rfl g_o3 ?_
    exact j_aret C dX5_insideToChange_39 hr rfl h
  · rw [if_neg b1] at h
    refine j_aload_n C dX5_insideToChange_11 rfl (hl.at 0 rfl) ?_
    obtain ⟨o4, g_o4, h⟩ := bd h
    refine j_gR C dX5_insideToChange_12 fl_RX5_77 rfl g_o4 ?_
    refine j_dup C dX5_insideToChange_15 (cat_rf _ _) ?_
    obtain ⟨v5, g_v5, h⟩ := bd h
    refine j_gI C dX5_insideToChange_16 fl_RX5_148 (Or.inl rfl) g_v5 (fun hv5 => ?_)
    refine j_iconst C dX5_insideToChange_19 ?_
    obtain ⟨z6, g_z6, h⟩ := bd h
    refine j_isub C dX5_insideToChange_20 g_z6 (fun hz6 => ?_)
    obtain ⟨S7, g_S7, h⟩ := bd h
    refine j_pI C dX5_insideToChange_21 fl_RX5_148 (Or.inl rfl) rfl hz6 g_S7 ?_
    refine j_aload_n C dX5_insideToChange_24 rfl (hl.at 0 rfl) ?_
    refine j_aload_n C dX5_insideToChange_25 rfl (hl.at 0 rfl) ?_
    obtain ⟨o8, g_o8, h⟩ := bd h
    refine j_gR C dX5_insideToChange_26 fl_RX5_77 rfl g_o8 ?_
    obtain ⟨c11, h⟩ := gd_some h
    rcases cR_some h with ⟨S9, wo10, o10, hc, h⟩ | ⟨hc, hne⟩
    · refine j_callR C (run_W (As := []) (rest := [rf b a0]) C (m_X0_twin hst hc) cv_RX5_216 (by decide) rfl c11 rfl hl (by simp [cat_iv, cat_rf]) (by decide) (by decide) dX5_insideToChange_29) ?_
      obtain ⟨S12, g_S12, h⟩ := bd h
      refine j_pR C dX5_insideToChange_32 fl_RX5_77 (Or.inl rfl) rfl g_S12 ?_
      refine j_aload_n C dX5_insideToChange_35 rfl (hl.at 0 rfl) ?_
      obtain ⟨o13, g_o13, h⟩ := bd h
      refine j_gR C dX5_insideToChange_36 fl_RX5_77 rfl g_o13 ?_
      exact j_aret C dX5_insideToChange_39 hr rfl h
    · exact j_thrown C hT (run_W (As := []) (rest := [rf b a0]) C (m_X0_twin hst hc) cv_RX5_216 (by decide) rfl c11 rfl hl (by simp [cat_iv, cat_rf]) (by decide) (by decide) dX5_insideToChange_29) hne
noncomputable def f_X5_netAt_21 (a0 : Option Nat) (x1 : Int) (x2 : Int) (t0 : Int) (S : AS) : Option RS :=
  cV (f_X5_requireWithin x2 t0 S) fun S1 =>
  (gR S1 a0 5 6).bind fun o3 =>
  gd (isK S1 o3 1) <|
  cR (f_X0_netsOf o3 x1 S1) fun o5 S4 =>
  (aI S4 o5 8 x2).bind fun v7 =>
  rI v7 S4
set_option maxHeartbeats 4000000 in
set_option maxRecDepth 100000 in
theorem w_X5_netAt_21 {p : Program} {l : Launch} {e : Env} {R : Room} {s : State} {m : MethodId} {args : Array Value} {below : List Frame} {meth : Method} {c : Code} {b : Nat} {D : va_G} {dA : Nat → ClassId} {S0 : AS} {q : RS} (C : hp_C p l e R s m args below meth c b D dA S0 RX5 cX5_netAt 4 8 131) (hT : ∀ x ∈ c.exceptionTable.toList, False) (hnm : meth.name = "netAt") (hr : meth.sig.returnType = (some .int)) : ∀ (a0 : Option Nat) (x1 : Int) (x2 : Int) (t0 : Int) (S : AS), inR x1 → inR x2 → inR t0 → f_X5_netAt_21 a0 x1 x2 t0 S = some q → ∀ ls : Array Slot, hp_L ls 4 [(0, rf b a0), (1, iv x1), (2, iv x2)] → hp_J p l e R s m args below meth c b D dA S0 (hp_Q below b D dA S0 1 q args s) S 21 ls [iv t0] := by
  have hst : l.stackTraces = false := C.2.2.2.2.2.2.2.2.2.2.1
  intro a0 x1 x2 t0 S hx1 hx2 ht0 h ls hl
  unfold f_X5_netAt_21 at h
  refine k_istore_n (lv' := [(3, iv t0), (0, rf b a0), (1, iv x1), (2, iv x2)]) C dX5_netAt_21 rfl hl (by decide) rfl (fun ls hl => ?_)
  refine j_iload_n C dX5_netAt_22 rfl (hl.at 3 rfl) ?_
  refine j_iload_n C dX5_netAt_23 rfl (hl.at 0 rfl) ?_
  rcases cV_some h with ⟨S1, y2, hc, h⟩ | ⟨hc, hne⟩
  · refine j_callV C (run_S (As := [iv x2, iv t0]) (rest := []) C (m_X5_requireWithin hst hx2 ht0 hc) cs_RX5_133 rfl hl.1.1 (by decide) (by decide) (by decide) dX5_netAt_24) ?_
    refine j_aload_n C dX5_netAt_27 rfl (hl.at 1 rfl) ?_
    obtain ⟨o3, g_o3, h⟩ := bd h
    refine j_gR C dX5_netAt_28 fl_RX5_77 rfl g_o3 ?_
    refine j_iload_n C dX5_netAt_31 rfl (hl.at 2 rfl) ?_
    obtain ⟨c6, h⟩ := gd_some h
    rcases cR_some h with ⟨S4, wo5, o5, hc, h⟩ | ⟨hc, hne⟩
    · refine j_callR C (run_W (As := [iv x1]) (rest := []) C (m_X0_netsOf hst hx1 hc) cv_RX5_129 (by decide) rfl c6 rfl hl (by decide) (by decide) (by decide) dX5_netAt_32) ?_
      refine j_iload_n C dX5_netAt_35 rfl (hl.at 3 rfl) ?_
      obtain ⟨v7, g_v7, h⟩ := bd h
      refine j_iald C dX5_netAt_36 hx2 g_v7 (fun hv7 => ?_)
      exact j_iret C dX5_netAt_37 hr hv7 h
    · exact j_thrown C hT (run_W (As := [iv x1]) (rest := []) C (m_X0_netsOf hst hx1 hc) cv_RX5_129 (by decide) rfl c6 rfl hl (by decide) (by decide) (by decide) dX5_netAt_32) hne
  · exact j_thrown C hT (run_S (As := [iv x2, iv t0]) (rest := []) C (m_X5_requireWithin hst hx2 ht0 hc) cs_RX5_133 rfl hl.1.1 (by decide) (by decide) (by decide) dX5_netAt_24) hne
noncomputable def f_X5_netAt (a0 : Option Nat) (x1 : Int) (x2 : Int) (S : AS) : Option RS :=
  if x1 = (-1) then
    (gI S a0 5 4).bind fun v5 =>
    f_X5_netAt_21 a0 x1 x2 v5 S
  else
    cR (f_X5_placementAt a0 x1 S) fun o2 S1 =>
    (gR S1 o2 4 2).bind fun o3 =>
    (ln S1 o3 8).bind fun v4 =>
    f_X5_netAt_21 a0 x1 x2 v4 S1
set_option maxHeartbeats 4000000 in
set_option maxRecDepth 100000 in
theorem m_X5_netAt {l : Launch} {b : Nat} {D : va_G} {dA : Nat → ClassId} (hst : l.stackTraces = false) {a0 : Option Nat} {x1 : Int} {x2 : Int} {S : AS} {q : RS} (hx1 : inR x1) (hx2 : inR x2) (h : f_X5_netAt a0 x1 x2 S = some q) : hp_M l b D dA yX5_netAt cX5_netAt 4 (some .int) 8 131 [rf b a0, iv x1, iv x2] S 1 q := by
  have hcat : ∀ v ∈ ([rf b a0, iv x1, iv x2] : List Value), v.category = 1 := (by intro v hv; simp only [List.mem_cons, List.not_mem_nil, or_false] at hv; rcases hv with rfl | rfl | rfl <;> first | exact cat_iv _ | exact cat_rf _ _)
  refine hp_ofJ (own := RX5) hst (by decide +kernel) rfl hcat (Nat.le_of_ble_eq_true rfl) ?_
  intro p e R s m args below meth c C hT hnm hr ls hl9
  have hl : hp_L ls 4 [(0, rf b a0), (1, iv x1), (2, iv x2)] := hp_L.of hl9 hcat
  unfold f_X5_netAt at h
  refine j_iload_n C dX5_netAt_0 rfl (hl.at 1 rfl) ?_
  refine j_iconst C dX5_netAt_1 ?_
  refine j_icmp_ne (tgt := 12) C dX5_netAt_2 (by decide) hx1 (by decide) (fun b1 => ?_) (fun b1 => ?_)
  · rw [if_neg b1] at h
    refine j_aload_n C dX5_netAt_12 rfl (hl.at 0 rfl) ?_
    refine j_iload_n C dX5_netAt_13 rfl (hl.at 1 rfl) ?_
    rcases cR_some h with ⟨S1, wo2, o2, hc, h⟩ | ⟨hc, hne⟩
    · refine j_callR C (run_S (As := [rf b a0, iv x1]) (rest := []) C (m_X5_placementAt hst hx1 hc) cs_RX5_183 rfl hl.1.1 (by decide) (by decide) (by decide) dX5_netAt_14) ?_
      obtain ⟨o3, g_o3, h⟩ := bd h
      refine j_gR C dX5_netAt_17 fl_RX5_220 rfl g_o3 ?_
      obtain ⟨v4, g_v4, h⟩ := bd h
      refine j_alen C dX5_netAt_20 (by decide) g_v4 (fun hv4 => ?_)
      exact w_X5_netAt_21 C hT hnm hr _ _ _ _ _ hx1 hx2 hv4 h ls (hl.sub [0, 1, 2] rfl)
    · exact j_thrown C hT (run_S (As := [rf b a0, iv x1]) (rest := []) C (m_X5_placementAt hst hx1 hc) cs_RX5_183 rfl hl.1.1 (by decide) (by decide) (by decide) dX5_netAt_14) hne
  · rw [if_pos (Decidable.byContradiction b1)] at h
    refine j_aload_n C dX5_netAt_5 rfl (hl.at 0 rfl) ?_
    obtain ⟨v5, g_v5, h⟩ := bd h
    refine j_gI C dX5_netAt_6 fl_RX5_92 (Or.inl rfl) g_v5 (fun hv5 => ?_)
    refine j_goto (tgt := 21) C dX5_netAt_9 (by decide) ?_
    exact w_X5_netAt_21 C hT hnm hr _ _ _ _ _ hx1 hx2 hv5 h ls (hl.sub [0, 1, 2] rfl)
noncomputable def f_X5_moveTo (x0 : Int) (a1 : Option Nat) (x2 : Int) (x3 : Int) (S : AS) : Option RS :=
  cI (f_X5_netAt a1 x2 x3 S) fun v2 S1 =>
  if v2 = x0 then
    rZ 0 S1
  else
    cR (f_X5_insideToChange a1 S1) fun o4 S3 =>
    gd (isK S3 o4 1) <|
    cR (f_X0_netsOf o4 x2 S3) fun o6 S5 =>
    (sI S5 o6 8 x3 x0).bind fun S8 =>
    rZ 1 S8
set_option maxHeartbeats 4000000 in
set_option maxRecDepth 100000 in
theorem m_X5_moveTo {l : Launch} {b : Nat} {D : va_G} {dA : Nat → ClassId} (hst : l.stackTraces = false) {x0 : Int} {a1 : Option Nat} {x2 : Int} {x3 : Int} {S : AS} {q : RS} (hx0 : inR x0) (hx2 : inR x2) (hx3 : inR x3) (h : f_X5_moveTo x0 a1 x2 x3 S = some q) : hp_M l b D dA yX5_moveTo cX5_moveTo 4 (some .boolean) 10 154 [iv x0, rf b a1, iv x2, iv x3] S 1 q := by
  have hcat : ∀ v ∈ ([iv x0, rf b a1, iv x2, iv x3] : List Value), v.category = 1 := (by intro v hv; simp only [List.mem_cons, List.not_mem_nil, or_false] at hv; rcases hv with rfl | rfl | rfl | rfl <;> first | exact cat_iv _ | exact cat_rf _ _)
  refine hp_ofJ (own := RX5) hst (by decide +kernel) rfl hcat (Nat.le_of_ble_eq_true rfl) ?_
  intro p e R s m args below meth c C hT hnm hr ls hl9
  have hl : hp_L ls 4 [(0, iv x0), (1, rf b a1), (2, iv x2), (3, iv x3)] := hp_L.of hl9 hcat
  unfold f_X5_moveTo at h
  refine j_aload_n C dX5_moveTo_0 rfl (hl.at 1 rfl) ?_
  refine j_iload_n C dX5_moveTo_1 rfl (hl.at 2 rfl) ?_
  refine j_iload_n C dX5_moveTo_2 rfl (hl.at 3 rfl) ?_
  rcases cI_some h with ⟨S1, v2, wv2, hc, h⟩ | ⟨hc, hne⟩
  · refine j_callI C (run_S (As := [rf b a1, iv x2, iv x3]) (rest := []) C (m_X5_netAt hst hx2 hx3 hc) cs_RX5_125 rfl hl.1.1 (by decide) (by decide) (by decide) dX5_moveTo_3) (fun hv2 => ?_)
    refine j_iload_n C dX5_moveTo_6 rfl (hl.at 0 rfl) ?_
    refine j_icmp_ne (tgt := 12) C dX5_moveTo_7 (by decide) hv2 hx0 (fun b1 => ?_) (fun b1 => ?_)
    · rw [if_neg b1] at h
      refine j_aload_n C dX5_moveTo_12 rfl (hl.at 1 rfl) ?_
      rcases cR_some h with ⟨S3, wo4, o4, hc, h⟩ | ⟨hc, hne⟩
      · refine j_callR C (run_S (As := [rf b a1]) (rest := []) C (m_X5_insideToChange hst hc) cs_RX5_88 rfl hl.1.1 (by decide) (by decide) (by decide) dX5_moveTo_13) ?_
        refine j_iload_n C dX5_moveTo_16 rfl (hl.at 2 rfl) ?_
        obtain ⟨c7, h⟩ := gd_some h
        rcases cR_some h with ⟨S5, wo6, o6, hc, h⟩ | ⟨hc, hne⟩
        · refine j_callR C (run_W (As := [iv x2]) (rest := []) C (m_X0_netsOf hst hx2 hc) cv_RX5_129 (by decide) rfl c7 rfl hl (by decide) (by decide) (by decide) dX5_moveTo_17) ?_
          refine j_iload_n C dX5_moveTo_20 rfl (hl.at 3 rfl) ?_
          refine j_iload_n C dX5_moveTo_21 rfl (hl.at 0 rfl) ?_
          obtain ⟨S8, g_S8, h⟩ := bd h
          refine j_iast C dX5_moveTo_22 hx3 hx0 g_S8 ?_
          refine j_iconst C dX5_moveTo_23 ?_
          exact j_zret C dX5_moveTo_24 hr h
        · exact j_thrown C hT (run_W (As := [iv x2]) (rest := []) C (m_X0_netsOf hst hx2 hc) cv_RX5_129 (by decide) rfl c7 rfl hl (by decide) (by decide) (by decide) dX5_moveTo_17) hne
      · exact j_thrown C hT (run_S (As := [rf b a1]) (rest := []) C (m_X5_insideToChange hst hc) cs_RX5_88 rfl hl.1.1 (by decide) (by decide) (by decide) dX5_moveTo_13) hne
    · rw [if_pos (Decidable.byContradiction b1)] at h
      refine j_iconst C dX5_moveTo_10 ?_
      exact j_zret C dX5_moveTo_11 hr h
  · exact j_thrown C hT (run_S (As := [rf b a1, iv x2, iv x3]) (rest := []) C (m_X5_netAt hst hx2 hx3 hc) cs_RX5_125 rfl hl.1.1 (by decide) (by decide) (by decide) dX5_moveTo_3) hne
noncomputable def f_X5_placeOf_25 (n : Nat) (k5 : Option Nat → Int → Int → Int → AS → Option RS) (a0 : Option Nat) (x1 : Int) (x3 : Int) (x4 : Int) (a5 : Option Nat) (x6 : Int) (S : AS) : Option RS := match n with
  | 0 => none
  | n + 1 =>
    (ln S a5 8).bind fun v1 =>
    if v1 ≤ x6 then
      (chk (x4 + 1)).bind fun z2 =>
      k5 a0 x1 x3 z2 S
    else
      (aI S a5 8 x6).bind fun v3 =>
      if v3 = x1 then
        if x3 = 0 then
          (chk (x4 + 1)).bind fun z7 =>
          (chk (z7 * 128)).bind fun z8 =>
          (chk (z8 + x6)).bind fun z9 =>
          rI z9 S
        else
          (some (wz (x3 + (-1)))).bind fun z5 =>
          (chk (x6 + 1)).bind fun z6 =>
          f_X5_placeOf_25 n k5 a0 x1 z5 x4 a5 z6 S
      else
        (chk (x6 + 1)).bind fun z4 =>
        f_X5_placeOf_25 n k5 a0 x1 x3 x4 a5 z4 S
set_option maxHeartbeats 4000000 in
set_option maxRecDepth 100000 in
theorem w_X5_placeOf_25 {p : Program} {l : Launch} {e : Env} {R : Room} {s : State} {m : MethodId} {args : Array Value} {below : List Frame} {meth : Method} {c : Code} {b : Nat} {D : va_G} {dA : Nat → ClassId} {S0 : AS} {q : RS} (C : hp_C p l e R s m args below meth c b D dA S0 RX5 cX5_placeOf 7 7 37) (hT : ∀ x ∈ c.exceptionTable.toList, False) (hnm : meth.name = "placeOf") (hr : meth.sig.returnType = (some .int)) {k5 : Option Nat → Int → Int → Int → AS → Option RS} (hk5 : ∀ (a0 : Option Nat) (x1 : Int) (x3 : Int) (x4 : Int) (S : AS), inR x1 → inR x3 → inR x4 → k5 a0 x1 x3 x4 S = some q → ∀ ls : Array Slot, hp_L ls 7 [(0, rf b a0), (1, iv x1), (3, iv x3), (4, iv x4)] → hp_J p l e R s m args below meth c b D dA S0 (hp_Q below b D dA S0 1 q args s) S 5 ls []) : ∀ (n : Nat), ∀ (a0 : Option Nat) (x1 : Int) (x3 : Int) (x4 : Int) (a5 : Option Nat) (x6 : Int) (S : AS), inR x1 → inR x3 → inR x4 → inR x6 → f_X5_placeOf_25 n k5 a0 x1 x3 x4 a5 x6 S = some q → ∀ ls : Array Slot, hp_L ls 7 [(0, rf b a0), (1, iv x1), (3, iv x3), (4, iv x4), (5, rf b a5), (6, iv x6)] → hp_J p l e R s m args below meth c b D dA S0 (hp_Q below b D dA S0 1 q args s) S 25 ls [] := by
  have hst : l.stackTraces = false := C.2.2.2.2.2.2.2.2.2.2.1
  intro n
  induction n with
  | zero =>
    intro a0 x1 x3 x4 a5 x6 S hx1 hx3 hx4 hx6 h
    cases h
  | succ n ih =>
    intro a0 x1 x3 x4 a5 x6 S hx1 hx3 hx4 hx6 h ls hl
    unfold f_X5_placeOf_25 at h
    refine j_iload C dX5_placeOf_25 (hl.at 5 rfl) ?_
    refine j_aload C dX5_placeOf_27 (hl.at 4 rfl) ?_
    obtain ⟨v1, g_v1, h⟩ := bd h
    refine j_alen C dX5_placeOf_29 (by decide) g_v1 (fun hv1 => ?_)
    refine j_icmp_ge (tgt := 67) C dX5_placeOf_30 (by decide) hx6 hv1 (fun b1 => ?_) (fun b1 => ?_)
    · rw [if_pos b1] at h
      obtain ⟨z2, g_z2, h⟩ := bd h
      refine k_iinc (k9 := 3) (lv' := [(4, iv z2), (0, rf b a0), (1, iv x1), (3, iv x3), (5, rf b a5), (6, iv x6)]) C dX5_placeOf_67 hl rfl g_z2 (by decide) rfl (fun hz2 ls hl => ?_)
      refine j_goto (tgt := 5) C dX5_placeOf_70 (by decide) ?_
      exact hk5 _ _ _ _ _ hx1 hx3 hz2 h ls (hl.sub [1, 2, 3, 0] rfl)
    · rw [if_neg b1] at h
      refine j_aload C dX5_placeOf_33 (hl.at 4 rfl) ?_
      refine j_iload C dX5_placeOf_35 (hl.at 5 rfl) ?_
      obtain ⟨v3, g_v3, h⟩ := bd h
      refine j_iald C dX5_placeOf_37 hx6 g_v3 (fun hv3 => ?_)
      refine j_iload_n C dX5_placeOf_38 rfl (hl.at 1 rfl) ?_
      refine j_icmp_ne (tgt := 61) C dX5_placeOf_39 (by decide) hv3 hx1 (fun b1 => ?_) (fun b1 => ?_)
      · rw [if_neg b1] at h
        obtain ⟨z4, g_z4, h⟩ := bd h
        refine k_iinc (k9 := 5) (lv' := [(6, iv z4), (0, rf b a0), (1, iv x1), (3, iv x3), (4, iv x4), (5, rf b a5)]) C dX5_placeOf_61 hl rfl g_z4 (by decide) rfl (fun hz4 ls hl => ?_)
        refine j_goto (tgt := 25) C dX5_placeOf_64 (by decide) ?_
        exact ih _ _ _ _ _ _ _ hx1 hx3 hx4 hz4 h ls (hl.sub [1, 2, 3, 4, 5, 0] rfl)
      · rw [if_pos (Decidable.byContradiction b1)] at h
        refine j_iload_n C dX5_placeOf_42 rfl (hl.at 2 rfl) ?_
        refine j_if_ne (tgt := 58) C dX5_placeOf_43 (by decide) hx3 (fun b1 => ?_) (fun b1 => ?_)
        · rw [if_neg b1] at h
          obtain ⟨z5, g_z5, h⟩ := bd h
          refine k_iincw (k9 := 2) (lv' := [(3, iv z5), (0, rf b a0), (1, iv x1), (4, iv x4), (5, rf b a5), (6, iv x6)]) C dX5_placeOf_58 hl rfl g_z5 (by decide) rfl (fun hz5 ls hl => ?_)
          obtain ⟨z6, g_z6, h⟩ := bd h
          refine k_iinc (k9 := 5) (lv' := [(6, iv z6), (3, iv z5), (0, rf b a0), (1, iv x1), (4, iv x4), (5, rf b a5)]) C dX5_placeOf_61 hl rfl g_z6 (by decide) rfl (fun hz6 ls hl => ?_)
          refine j_goto (tgt := 25) C dX5_placeOf_64 (by decide) ?_
          exact ih _ _ _ _ _ _ _ hx1 hz5 hx4 hz6 h ls (hl.sub [2, 3, 1, 4, 5, 0] rfl)
        · rw [if_pos (Decidable.byContradiction b1)] at h
          refine j_iload C dX5_placeOf_46 (hl.at 3 rfl) ?_
          refine j_iconst C dX5_placeOf_48 ?_
          obtain ⟨z7, g_z7, h⟩ := bd h
          refine j_iadd C dX5_placeOf_49 g_z7 (fun hz7 => ?_)
          refine j_sipush (x := 128) C dX5_placeOf_50 (by decide) ?_
          obtain ⟨z8, g_z8, h⟩ := bd h
          refine j_imul C dX5_placeOf_53 g_z8 (fun hz8 => ?_)
          refine j_iload C dX5_placeOf_54 (hl.at 5 rfl) ?_
          obtain ⟨z9, g_z9, h⟩ := bd h
          refine j_iadd C dX5_placeOf_56 g_z9 (fun hz9 => ?_)
          exact j_iret C dX5_placeOf_57 hr hz9 h
noncomputable def f_X5_placeOf_5 (n : Nat) (a0 : Option Nat) (x1 : Int) (x3 : Int) (x4 : Int) (S : AS) : Option RS := match n with
  | 0 => none
  | n + 1 =>
    (gI S a0 1 2).bind fun v1 =>
    if v1 ≤ x4 then
      rI (-1) S
    else
      gd (isK S a0 1) <|
      cR (f_X0_netsOf a0 x4 S) fun o3 S2 =>
      f_X5_placeOf_25 FU (f_X5_placeOf_5 n) a0 x1 x3 x4 o3 0 S2
set_option maxHeartbeats 4000000 in
set_option maxRecDepth 100000 in
theorem w_X5_placeOf_5 {p : Program} {l : Launch} {e : Env} {R : Room} {s : State} {m : MethodId} {args : Array Value} {below : List Frame} {meth : Method} {c : Code} {b : Nat} {D : va_G} {dA : Nat → ClassId} {S0 : AS} {q : RS} (C : hp_C p l e R s m args below meth c b D dA S0 RX5 cX5_placeOf 7 7 37) (hT : ∀ x ∈ c.exceptionTable.toList, False) (hnm : meth.name = "placeOf") (hr : meth.sig.returnType = (some .int)) : ∀ (n : Nat), ∀ (a0 : Option Nat) (x1 : Int) (x3 : Int) (x4 : Int) (S : AS), inR x1 → inR x3 → inR x4 → f_X5_placeOf_5 n a0 x1 x3 x4 S = some q → ∀ ls : Array Slot, hp_L ls 7 [(0, rf b a0), (1, iv x1), (3, iv x3), (4, iv x4)] → hp_J p l e R s m args below meth c b D dA S0 (hp_Q below b D dA S0 1 q args s) S 5 ls [] := by
  have hst : l.stackTraces = false := C.2.2.2.2.2.2.2.2.2.2.1
  intro n
  induction n with
  | zero =>
    intro a0 x1 x3 x4 S hx1 hx3 hx4 h
    cases h
  | succ n ih =>
    intro a0 x1 x3 x4 S hx1 hx3 hx4 h ls hl
    unfold f_X5_placeOf_5 at h
    refine j_iload C dX5_placeOf_5 (hl.at 3 rfl) ?_
    refine j_aload_n C dX5_placeOf_7 rfl (hl.at 0 rfl) ?_
    obtain ⟨v1, g_v1, h⟩ := bd h
    refine j_gI C dX5_placeOf_8 fl_RX5_81 (Or.inl rfl) g_v1 (fun hv1 => ?_)
    refine j_icmp_ge (tgt := 73) C dX5_placeOf_11 (by decide) hx4 hv1 (fun b1 => ?_) (fun b1 => ?_)
    · rw [if_pos b1] at h
      refine j_iconst C dX5_placeOf_73 ?_
      exact j_iret C dX5_placeOf_74 hr (by decide) h
    · rw [if_neg b1] at h
      refine j_aload_n C dX5_placeOf_14 rfl (hl.at 0 rfl) ?_
      refine j_iload C dX5_placeOf_15 (hl.at 3 rfl) ?_
      obtain ⟨c4, h⟩ := gd_some h
      rcases cR_some h with ⟨S2, wo3, o3, hc, h⟩ | ⟨hc, hne⟩
      · refine j_callR C (run_W (As := [iv x4]) (rest := []) C (m_X0_netsOf hst hx4 hc) cv_RX5_129 (by decide) rfl c4 rfl hl (by decide) (by decide) (by decide) dX5_placeOf_17) ?_
        refine k_astore (lv' := [(5, rf b o3), (0, rf b a0), (1, iv x1), (3, iv x3), (4, iv x4)]) C dX5_placeOf_20 hl (by decide) rfl (fun ls hl => ?_)
        refine j_iconst C dX5_placeOf_22 ?_
        refine k_istore (lv' := [(6, iv 0), (5, rf b o3), (0, rf b a0), (1, iv x1), (3, iv x3), (4, iv x4)]) C dX5_placeOf_23 hl (by decide) rfl (fun ls hl => ?_)
        exact w_X5_placeOf_25 C hT hnm hr ih FU _ _ _ _ _ _ _ hx1 hx3 hx4 (by decide) h ls (hl.sub [2, 3, 4, 5, 1, 0] rfl)
      · exact j_thrown C hT (run_W (As := [iv x4]) (rest := []) C (m_X0_netsOf hst hx4 hc) cv_RX5_129 (by decide) rfl c4 rfl hl (by decide) (by decide) (by decide) dX5_placeOf_17) hne
noncomputable def f_X5_placeOf (a0 : Option Nat) (x1 : Int) (x2 : Int) (S : AS) : Option RS :=
  f_X5_placeOf_5 FU a0 x1 x2 (-1) S
set_option maxHeartbeats 4000000 in
set_option maxRecDepth 100000 in
theorem m_X5_placeOf {l : Launch} {b : Nat} {D : va_G} {dA : Nat → ClassId} (hst : l.stackTraces = false) {a0 : Option Nat} {x1 : Int} {x2 : Int} {S : AS} {q : RS} (hx1 : inR x1) (hx2 : inR x2) (h : f_X5_placeOf a0 x1 x2 S = some q) : hp_M l b D dA yX5_placeOf cX5_placeOf 7 (some .int) 7 37 [rf b a0, iv x1, iv x2] S 1 q := by
  have hcat : ∀ v ∈ ([rf b a0, iv x1, iv x2] : List Value), v.category = 1 := (by intro v hv; simp only [List.mem_cons, List.not_mem_nil, or_false] at hv; rcases hv with rfl | rfl | rfl <;> first | exact cat_iv _ | exact cat_rf _ _)
  refine hp_ofJ (own := RX5) hst (by decide +kernel) rfl hcat (Nat.le_of_ble_eq_true rfl) ?_
  intro p e R s m args below meth c C hT hnm hr ls hl9
  have hl : hp_L ls 7 [(0, rf b a0), (1, iv x1), (2, iv x2)] := hp_L.of hl9 hcat
  unfold f_X5_placeOf at h
  refine j_iload_n C dX5_placeOf_0 rfl (hl.at 2 rfl) ?_
  refine k_istore_n (lv' := [(3, iv x2), (0, rf b a0), (1, iv x1), (2, iv x2)]) C dX5_placeOf_1 rfl hl (by decide) rfl (fun ls hl => ?_)
  refine j_iconst C dX5_placeOf_2 ?_
  refine k_istore (lv' := [(4, iv (-1)), (3, iv x2), (0, rf b a0), (1, iv x1), (2, iv x2)]) C dX5_placeOf_3 hl (by decide) rfl (fun ls hl => ?_)
  exact w_X5_placeOf_5 C hT hnm hr FU _ _ _ _ _ hx1 hx2 (by decide) h ls (hl.sub [2, 3, 1, 0] rfl)
noncomputable def f_X5_isDriver (a0 : Option Nat) (x1 : Int) (x2 : Int) (S : AS) : Option RS :=
  if x1 = (-1) then
    (gR S a0 5 2).bind fun o7 =>
    (aI S o7 9 x2).bind fun v8 =>
    if v8 = 0 then
      rZ 1 S
    else
      rZ 0 S
  else
    (gR S a0 5 6).bind fun o1 =>
    (gR S o1 1 1).bind fun o2 =>
    (aR S o2 10 x1).bind fun o3 =>
    (gR S o3 4 0).bind fun o4 =>
    (gR S o4 5 2).bind fun o5 =>
    (aI S o5 9 x2).bind fun v6 =>
    rZ v6 S
set_option maxHeartbeats 4000000 in
set_option maxRecDepth 100000 in
theorem m_X5_isDriver {l : Launch} {b : Nat} {D : va_G} {dA : Nat → ClassId} (hst : l.stackTraces = false) {a0 : Option Nat} {x1 : Int} {x2 : Int} {S : AS} {q : RS} (hx1 : inR x1) (hx2 : inR x2) (h : f_X5_isDriver a0 x1 x2 S = some q) : hp_M l b D dA yX5_isDriver cX5_isDriver 3 (some .boolean) 6 16 [rf b a0, iv x1, iv x2] S 1 q := by
  have hcat : ∀ v ∈ ([rf b a0, iv x1, iv x2] : List Value), v.category = 1 := (by intro v hv; simp only [List.mem_cons, List.not_mem_nil, or_false] at hv; rcases hv with rfl | rfl | rfl <;> first | exact cat_iv _ | exact cat_rf _ _)
  refine hp_ofJ (own := RX5) hst (by decide +kernel) rfl hcat (Nat.le_of_ble_eq_true rfl) ?_
  intro p e R s m args below meth c C hT hnm hr ls hl9
  have hl : hp_L ls 3 [(0, rf b a0), (1, iv x1), (2, iv x2)] := hp_L.of hl9 hcat
  unfold f_X5_isDriver at h
  refine j_iload_n C dX5_isDriver_0 rfl (hl.at 1 rfl) ?_
  refine j_iconst C dX5_isDriver_1 ?_
  refine j_icmp_ne (tgt := 22) C dX5_isDriver_2 (by decide) hx1 (by decide) (fun b1 => ?_) (fun b1 => ?_)
  · rw [if_neg b1] at h
    refine j_aload_n C dX5_isDriver_22 rfl (hl.at 0 rfl) ?_
    obtain ⟨o1, g_o1, h⟩ := bd h
    refine j_gR C dX5_isDriver_23 fl_RX5_77 rfl g_o1 ?_
    obtain ⟨o2, g_o2, h⟩ := bd h
    refine j_gR C dX5_isDriver_26 fl_RX5_209 rfl g_o2 ?_
    refine j_iload_n C dX5_isDriver_29 rfl (hl.at 1 rfl) ?_
    obtain ⟨o3, g_o3, h⟩ := bd h
    refine j_aald C dX5_isDriver_30 (by decide) hx1 g_o3 ?_
    obtain ⟨o4, g_o4, h⟩ := bd h
    refine j_gR C dX5_isDriver_31 fl_RX5_205 rfl g_o4 ?_
    obtain ⟨o5, g_o5, h⟩ := bd h
    refine j_gR C dX5_isDriver_34 fl_RX5_223 rfl g_o5 ?_
    refine j_iload_n C dX5_isDriver_37 rfl (hl.at 2 rfl) ?_
    obtain ⟨v6, g_v6, h⟩ := bd h
    refine j_zald C dX5_isDriver_38 hx2 g_v6 (fun hv6 => ?_)
    exact j_zret C dX5_isDriver_39 hr h
  · rw [if_pos (Decidable.byContradiction b1)] at h
    refine j_aload_n C dX5_isDriver_5 rfl (hl.at 0 rfl) ?_
    obtain ⟨o7, g_o7, h⟩ := bd h
    refine j_gR C dX5_isDriver_6 fl_RX5_223 rfl g_o7 ?_
    refine j_iload_n C dX5_isDriver_9 rfl (hl.at 2 rfl) ?_
    obtain ⟨v8, g_v8, h⟩ := bd h
    refine j_zald C dX5_isDriver_10 hx2 g_v8 (fun hv8 => ?_)
    refine j_if_ne (tgt := 18) C dX5_isDriver_11 (by decide) hv8 (fun b1 => ?_) (fun b1 => ?_)
    · rw [if_neg b1] at h
      refine j_iconst C dX5_isDriver_18 ?_
      refine j_goto (tgt := 39) C dX5_isDriver_19 (by decide) ?_
      exact j_zret C dX5_isDriver_39 hr h
    · rw [if_pos (Decidable.byContradiction b1)] at h
      refine j_iconst C dX5_isDriver_14 ?_
      refine j_goto (tgt := 39) C dX5_isDriver_15 (by decide) ?_
      exact j_zret C dX5_isDriver_39 hr h
noncomputable def f_X5_tally_94 (k18 : Option Nat → Option Nat → Int → AS → Option RS) (k41 : Option Nat → Option Nat → Int → Option Nat → Int → AS → Option RS) (a0 : Option Nat) (a1 : Option Nat) (x2 : Int) (a3 : Option Nat) (x4 : Int) (t0 : Int) (t1 : Int) (t2 : Int) (u3 : Option Nat) (S : AS) : Option RS :=
  (chk (t1 + t0)).bind fun z1 =>
  (sI S u3 8 t2 z1).bind fun S2 =>
  (chk (x4 + 1)).bind fun z3 =>
  k41 a0 a1 x2 a3 z3 S2
set_option maxHeartbeats 4000000 in
set_option maxRecDepth 100000 in
theorem w_X5_tally_94 {p : Program} {l : Launch} {e : Env} {R : Room} {s : State} {m : MethodId} {args : Array Value} {below : List Frame} {meth : Method} {c : Code} {b : Nat} {D : va_G} {dA : Nat → ClassId} {S0 : AS} {q : RS} (C : hp_C p l e R s m args below meth c b D dA S0 RX5 cX5_tally 5 7 39) (hT : ∀ x ∈ c.exceptionTable.toList, False) (hnm : meth.name = "tally") (hr : meth.sig.returnType = none) {k18 : Option Nat → Option Nat → Int → AS → Option RS} (hk18 : ∀ (a0 : Option Nat) (a1 : Option Nat) (x2 : Int) (S : AS), inR x2 → k18 a0 a1 x2 S = some q → ∀ ls : Array Slot, hp_L ls 5 [(0, rf b a0), (1, rf b a1), (2, iv x2)] → hp_J p l e R s m args below meth c b D dA S0 (hp_Q below b D dA S0 0 q args s) S 18 ls []) {k41 : Option Nat → Option Nat → Int → Option Nat → Int → AS → Option RS} (hk41 : ∀ (a0 : Option Nat) (a1 : Option Nat) (x2 : Int) (a3 : Option Nat) (x4 : Int) (S : AS), inR x2 → inR x4 → k41 a0 a1 x2 a3 x4 S = some q → ∀ ls : Array Slot, hp_L ls 5 [(0, rf b a0), (1, rf b a1), (2, iv x2), (3, rf b a3), (4, iv x4)] → hp_J p l e R s m args below meth c b D dA S0 (hp_Q below b D dA S0 0 q args s) S 41 ls []) : ∀ (a0 : Option Nat) (a1 : Option Nat) (x2 : Int) (a3 : Option Nat) (x4 : Int) (t0 : Int) (t1 : Int) (t2 : Int) (u3 : Option Nat) (S : AS), inR x2 → inR x4 → inR t0 → inR t1 → inR t2 → f_X5_tally_94 k18 k41 a0 a1 x2 a3 x4 t0 t1 t2 u3 S = some q → ∀ ls : Array Slot, hp_L ls 5 [(0, rf b a0), (1, rf b a1), (2, iv x2), (3, rf b a3), (4, iv x4)] → hp_J p l e R s m args below meth c b D dA S0 (hp_Q below b D dA S0 0 q args s) S 94 ls [iv t0, iv t1, iv t2, rf b u3] := by
  have hst : l.stackTraces = false := C.2.2.2.2.2.2.2.2.2.2.1
  intro a0 a1 x2 a3 x4 t0 t1 t2 u3 S hx2 hx4 ht0 ht1 ht2 h ls hl
  unfold f_X5_tally_94 at h
  obtain ⟨z1, g_z1, h⟩ := bd h
  refine j_iadd C dX5_tally_94 g_z1 (fun hz1 => ?_)
  obtain ⟨S2, g_S2, h⟩ := bd h
  refine j_iast C dX5_tally_95 ht2 hz1 g_S2 ?_
  obtain ⟨z3, g_z3, h⟩ := bd h
  refine k_iinc (k9 := 4) (lv' := [(4, iv z3), (0, rf b a0), (1, rf b a1), (2, iv x2), (3, rf b a3)]) C dX5_tally_96 hl rfl g_z3 (by decide) rfl (fun hz3 ls hl => ?_)
  refine j_goto (tgt := 41) C dX5_tally_99 (by decide) ?_
  exact hk41 _ _ _ _ _ _ hx2 hz3 h ls (hl.sub [1, 2, 3, 4, 0] rfl)
noncomputable def f_X5_tally_41 (n : Nat) (k18 : Option Nat → Option Nat → Int → AS → Option RS) (a0 : Option Nat) (a1 : Option Nat) (x2 : Int) (a3 : Option Nat) (x4 : Int) (S : AS) : Option RS := match n with
  | 0 => none
  | n + 1 =>
    (ln S a3 8).bind fun v1 =>
    if v1 ≤ x4 then
      (chk (x2 + 1)).bind fun z2 =>
      k18 a0 a1 z2 S
    else
      (aI S a3 8 x4).bind fun v3 =>
      if v3 = (-1) then
        (chk (x4 + 1)).bind fun z4 =>
        f_X5_tally_41 n k18 a0 a1 x2 a3 z4 S
      else
        (gR S a0 6 5).bind fun o5 =>
        (aI S a3 8 x4).bind fun v6 =>
        (aI S o5 8 v6).bind fun v7 =>
        (chk (v7 + 1)).bind fun z8 =>
        (sI S o5 8 v6 z8).bind fun S9 =>
        (gR S9 a0 6 6).bind fun o10 =>
        (aI S9 a3 8 x4).bind fun v11 =>
        (aI S9 o10 8 v11).bind fun v12 =>
        cI (f_X5_isDriver a1 x2 x4 S9) fun v14 S13 =>
        if v14 = 0 then
          f_X5_tally_94 k18 (f_X5_tally_41 n k18) a0 a1 x2 a3 x4 0 v12 v11 o10 S13
        else
          f_X5_tally_94 k18 (f_X5_tally_41 n k18) a0 a1 x2 a3 x4 1 v12 v11 o10 S13
set_option maxHeartbeats 4000000 in
set_option maxRecDepth 100000 in
theorem w_X5_tally_41 {p : Program} {l : Launch} {e : Env} {R : Room} {s : State} {m : MethodId} {args : Array Value} {below : List Frame} {meth : Method} {c : Code} {b : Nat} {D : va_G} {dA : Nat → ClassId} {S0 : AS} {q : RS} (C : hp_C p l e R s m args below meth c b D dA S0 RX5 cX5_tally 5 7 39) (hT : ∀ x ∈ c.exceptionTable.toList, False) (hnm : meth.name = "tally") (hr : meth.sig.returnType = none) {k18 : Option Nat → Option Nat → Int → AS → Option RS} (hk18 : ∀ (a0 : Option Nat) (a1 : Option Nat) (x2 : Int) (S : AS), inR x2 → k18 a0 a1 x2 S = some q → ∀ ls : Array Slot, hp_L ls 5 [(0, rf b a0), (1, rf b a1), (2, iv x2)] → hp_J p l e R s m args below meth c b D dA S0 (hp_Q below b D dA S0 0 q args s) S 18 ls []) : ∀ (n : Nat), ∀ (a0 : Option Nat) (a1 : Option Nat) (x2 : Int) (a3 : Option Nat) (x4 : Int) (S : AS), inR x2 → inR x4 → f_X5_tally_41 n k18 a0 a1 x2 a3 x4 S = some q → ∀ ls : Array Slot, hp_L ls 5 [(0, rf b a0), (1, rf b a1), (2, iv x2), (3, rf b a3), (4, iv x4)] → hp_J p l e R s m args below meth c b D dA S0 (hp_Q below b D dA S0 0 q args s) S 41 ls [] := by
  have hst : l.stackTraces = false := C.2.2.2.2.2.2.2.2.2.2.1
  intro n
  induction n with
  | zero =>
    intro a0 a1 x2 a3 x4 S hx2 hx4 h
    cases h
  | succ n ih =>
    intro a0 a1 x2 a3 x4 S hx2 hx4 h ls hl
    unfold f_X5_tally_41 at h
    refine j_iload C dX5_tally_41 (hl.at 4 rfl) ?_
    refine j_aload_n C dX5_tally_43 rfl (hl.at 3 rfl) ?_
    obtain ⟨v1, g_v1, h⟩ := bd h
    refine j_alen C dX5_tally_44 (by decide) g_v1 (fun hv1 => ?_)
    refine j_icmp_ge (tgt := 102) C dX5_tally_45 (by decide) hx4 hv1 (fun b1 => ?_) (fun b1 => ?_)
    · rw [if_pos b1] at h
      obtain ⟨z2, g_z2, h⟩ := bd h
      refine k_iinc (k9 := 2) (lv' := [(2, iv z2), (0, rf b a0), (1, rf b a1), (3, rf b a3), (4, iv x4)]) C dX5_tally_102 hl rfl g_z2 (by decide) rfl (fun hz2 ls hl => ?_)
      refine j_goto (tgt := 18) C dX5_tally_105 (by decide) ?_
      exact hk18 _ _ _ _ hz2 h ls (hl.sub [1, 2, 0] rfl)
    · rw [if_neg b1] at h
      refine j_aload_n C dX5_tally_48 rfl (hl.at 3 rfl) ?_
      refine j_iload C dX5_tally_49 (hl.at 4 rfl) ?_
      obtain ⟨v3, g_v3, h⟩ := bd h
      refine j_iald C dX5_tally_51 hx4 g_v3 (fun hv3 => ?_)
      refine j_iconst C dX5_tally_52 ?_
      refine j_icmp_eq (tgt := 96) C dX5_tally_53 (by decide) hv3 (by decide) (fun b1 => ?_) (fun b1 => ?_)
      · rw [if_pos b1] at h
        obtain ⟨z4, g_z4, h⟩ := bd h
        refine k_iinc (k9 := 4) (lv' := [(4, iv z4), (0, rf b a0), (1, rf b a1), (2, iv x2), (3, rf b a3)]) C dX5_tally_96 hl rfl g_z4 (by decide) rfl (fun hz4 ls hl => ?_)
        refine j_goto (tgt := 41) C dX5_tally_99 (by decide) ?_
        exact ih _ _ _ _ _ _ hx2 hz4 h ls (hl.sub [1, 2, 3, 4, 0] rfl)
      · rw [if_neg b1] at h
        refine j_aload_n C dX5_tally_56 rfl (hl.at 0 rfl) ?_
        obtain ⟨o5, g_o5, h⟩ := bd h
        refine j_gR C dX5_tally_57 fl_RX5_37 rfl g_o5 ?_
        refine j_aload_n C dX5_tally_60 rfl (hl.at 3 rfl) ?_
        refine j_iload C dX5_tally_61 (hl.at 4 rfl) ?_
        obtain ⟨v6, g_v6, h⟩ := bd h
        refine j_iald C dX5_tally_63 hx4 g_v6 (fun hv6 => ?_)
        refine j_dup2 C dX5_tally_64 (cat_iv _) (cat_rf _ _) ?_
        obtain ⟨v7, g_v7, h⟩ := bd h
        refine j_iald C dX5_tally_65 hv6 g_v7 (fun hv7 => ?_)
        refine j_iconst C dX5_tally_66 ?_
        obtain ⟨z8, g_z8, h⟩ := bd h
        refine j_iadd C dX5_tally_67 g_z8 (fun hz8 => ?_)
        obtain ⟨S9, g_S9, h⟩ := bd h
        refine j_iast C dX5_tally_68 hv6 hz8 g_S9 ?_
        refine j_aload_n C dX5_tally_69 rfl (hl.at 0 rfl) ?_
        obtain ⟨o10, g_o10, h⟩ := bd h
        refine j_gR C dX5_tally_70 fl_RX5_40 rfl g_o10 ?_
        refine j_aload_n C dX5_tally_73 rfl (hl.at 3 rfl) ?_
        refine j_iload C dX5_tally_74 (hl.at 4 rfl) ?_
        obtain ⟨v11, g_v11, h⟩ := bd h
        refine j_iald C dX5_tally_76 hx4 g_v11 (fun hv11 => ?_)
        refine j_dup2 C dX5_tally_77 (cat_iv _) (cat_rf _ _) ?_
        obtain ⟨v12, g_v12, h⟩ := bd h
        refine j_iald C dX5_tally_78 hv11 g_v12 (fun hv12 => ?_)
        refine j_aload_n C dX5_tally_79 rfl (hl.at 1 rfl) ?_
        refine j_iload_n C dX5_tally_80 rfl (hl.at 2 rfl) ?_
        refine j_iload C dX5_tally_81 (hl.at 4 rfl) ?_
        rcases cI_some h with ⟨S13, v14, wv14, hc, h⟩ | ⟨hc, hne⟩
        · refine j_callI C (run_S (As := [rf b a1, iv x2, iv x4]) (rest := [iv v12, iv v11, rf b o10]) C (m_X5_isDriver hst hx2 hx4 hc) cs_RX5_144 rfl hl.1.1 (by simp [cat_iv, cat_rf]) (by decide) (by decide) dX5_tally_83) (fun hv14 => ?_)
          refine j_if_eq (tgt := 93) C dX5_tally_86 (by decide) hv14 (fun b1 => ?_) (fun b1 => ?_)
          · rw [if_pos b1] at h
            refine j_iconst C dX5_tally_93 ?_
            exact w_X5_tally_94 C hT hnm hr hk18 ih _ _ _ _ _ _ _ _ _ _ hx2 hx4 (by decide) hv12 hv11 h ls (hl.sub [0, 1, 2, 3, 4] rfl)
          · rw [if_neg b1] at h
            refine j_iconst C dX5_tally_89 ?_
            refine j_goto (tgt := 94) C dX5_tally_90 (by decide) ?_
            exact w_X5_tally_94 C hT hnm hr hk18 ih _ _ _ _ _ _ _ _ _ _ hx2 hx4 (by decide) hv12 hv11 h ls (hl.sub [0, 1, 2, 3, 4] rfl)
        · exact j_thrown C hT (run_S (As := [rf b a1, iv x2, iv x4]) (rest := [iv v12, iv v11, rf b o10]) C (m_X5_isDriver hst hx2 hx4 hc) cs_RX5_144 rfl hl.1.1 (by simp [cat_iv, cat_rf]) (by decide) (by decide) dX5_tally_83) hne
noncomputable def f_X5_tally_18 (n : Nat) (a0 : Option Nat) (a1 : Option Nat) (x2 : Int) (S : AS) : Option RS := match n with
  | 0 => none
  | n + 1 =>
    (gR S a1 5 6).bind fun o1 =>
    (gI S o1 1 2).bind fun v2 =>
    if v2 ≤ x2 then
      rV S
    else
      (gR S a1 5 6).bind fun o3 =>
      gd (isK S o3 1) <|
      cR (f_X0_netsOf o3 x2 S) fun o5 S4 =>
      f_X5_tally_41 FU (f_X5_tally_18 n) a0 a1 x2 o5 0 S4
set_option maxHeartbeats 4000000 in
set_option maxRecDepth 100000 in
theorem w_X5_tally_18 {p : Program} {l : Launch} {e : Env} {R : Room} {s : State} {m : MethodId} {args : Array Value} {below : List Frame} {meth : Method} {c : Code} {b : Nat} {D : va_G} {dA : Nat → ClassId} {S0 : AS} {q : RS} (C : hp_C p l e R s m args below meth c b D dA S0 RX5 cX5_tally 5 7 39) (hT : ∀ x ∈ c.exceptionTable.toList, False) (hnm : meth.name = "tally") (hr : meth.sig.returnType = none) : ∀ (n : Nat), ∀ (a0 : Option Nat) (a1 : Option Nat) (x2 : Int) (S : AS), inR x2 → f_X5_tally_18 n a0 a1 x2 S = some q → ∀ ls : Array Slot, hp_L ls 5 [(0, rf b a0), (1, rf b a1), (2, iv x2)] → hp_J p l e R s m args below meth c b D dA S0 (hp_Q below b D dA S0 0 q args s) S 18 ls [] := by
  have hst : l.stackTraces = false := C.2.2.2.2.2.2.2.2.2.2.1
  intro n
  induction n with
  | zero =>
    intro a0 a1 x2 S hx2 h
    cases h
  | succ n ih =>
    intro a0 a1 x2 S hx2 h ls hl
    unfold f_X5_tally_18 at h
    refine j_iload_n C dX5_tally_18 rfl (hl.at 2 rfl) ?_
    refine j_aload_n C dX5_tally_19 rfl (hl.at 1 rfl) ?_
    obtain ⟨o1, g_o1, h⟩ := bd h
    refine j_gR C dX5_tally_20 fl_RX5_77 rfl g_o1 ?_
    obtain ⟨v2, g_v2, h⟩ := bd h
    refine j_gI C dX5_tally_23 fl_RX5_81 (Or.inl rfl) g_v2 (fun hv2 => ?_)
    refine j_icmp_ge (tgt := 108) C dX5_tally_26 (by decide) hx2 hv2 (fun b1 => ?_) (fun b1 => ?_)
    · rw [if_pos b1] at h
      exact j_vret C dX5_tally_108 hr h
    · rw [if_neg b1] at h
      refine j_aload_n C dX5_tally_29 rfl (hl.at 1 rfl) ?_
      obtain ⟨o3, g_o3, h⟩ := bd h
      refine j_gR C dX5_tally_30 fl_RX5_77 rfl g_o3 ?_
      refine j_iload_n C dX5_tally_33 rfl (hl.at 2 rfl) ?_
      obtain ⟨c6, h⟩ := gd_some h
      rcases cR_some h with ⟨S4, wo5, o5, hc, h⟩ | ⟨hc, hne⟩
      · refine j_callR C (run_W (As := [iv x2]) (rest := []) C (m_X0_netsOf hst hx2 hc) cv_RX5_129 (by decide) rfl c6 rfl hl (by decide) (by decide) (by decide) dX5_tally_34) ?_
        refine k_astore_n (lv' := [(3, rf b o5), (0, rf b a0), (1, rf b a1), (2, iv x2)]) C dX5_tally_37 rfl hl (by decide) rfl (fun ls hl => ?_)
        refine j_iconst C dX5_tally_38 ?_
        refine k_istore (lv' := [(4, iv 0), (3, rf b o5), (0, rf b a0), (1, rf b a1), (2, iv x2)]) C dX5_tally_39 hl (by decide) rfl (fun ls hl => ?_)
        exact w_X5_tally_41 C hT hnm hr ih FU _ _ _ _ _ _ hx2 (by decide) h ls (hl.sub [2, 3, 4, 1, 0] rfl)
      · exact j_thrown C hT (run_W (As := [iv x2]) (rest := []) C (m_X0_netsOf hst hx2 hc) cv_RX5_129 (by decide) rfl c6 rfl hl (by decide) (by decide) (by decide) dX5_tally_34) hne
noncomputable def f_X5_tally (a0 : Option Nat) (a1 : Option Nat) (S : AS) : Option RS :=
  (gR S a0 6 5).bind fun o1 =>
  cV (f_J7_fill_53178 o1 0 S) fun S2 =>
  (gR S2 a0 6 6).bind fun o4 =>
  cV (f_J7_fill_53178 o4 0 S2) fun S5 =>
  f_X5_tally_18 FU a0 a1 (-1) S5
set_option maxHeartbeats 4000000 in
set_option maxRecDepth 100000 in
theorem m_X5_tally {l : Launch} {b : Nat} {D : va_G} {dA : Nat → ClassId} (hst : l.stackTraces = false) {a0 : Option Nat} {a1 : Option Nat} {S : AS} {q : RS} (h : f_X5_tally a0 a1 S = some q) : hp_M l b D dA yX5_tally cX5_tally 5 none 7 39 [rf b a0, rf b a1] S 0 q := by
  have hcat : ∀ v ∈ ([rf b a0, rf b a1] : List Value), v.category = 1 := (by intro v hv; simp only [List.mem_cons, List.not_mem_nil, or_false] at hv; rcases hv with rfl | rfl <;> first | exact cat_iv _ | exact cat_rf _ _)
  refine hp_ofJ (own := RX5) hst (by decide +kernel) rfl hcat (Nat.le_of_ble_eq_true rfl) ?_
  intro p e R s m args below meth c C hT hnm hr ls hl9
  have hl : hp_L ls 5 [(0, rf b a0), (1, rf b a1)] := hp_L.of hl9 hcat
  unfold f_X5_tally at h
  refine j_aload_n C dX5_tally_0 rfl (hl.at 0 rfl) ?_
  obtain ⟨o1, g_o1, h⟩ := bd h
  refine j_gR C dX5_tally_1 fl_RX5_37 rfl g_o1 ?_
  refine j_iconst C dX5_tally_4 ?_
  rcases cV_some h with ⟨S2, y3, hc, h⟩ | ⟨hc, hne⟩
  · refine j_callV C (run_S (As := [rf b o1, iv 0]) (rest := []) C (m_J7_fill_53178 hst (by decide) hc) cs_RX5_95 rfl hl.1.1 (by decide) (by decide) (by decide) dX5_tally_5) ?_
    refine j_aload_n C dX5_tally_8 rfl (hl.at 0 rfl) ?_
    obtain ⟨o4, g_o4, h⟩ := bd h
    refine j_gR C dX5_tally_9 fl_RX5_40 rfl g_o4 ?_
    refine j_iconst C dX5_tally_12 ?_
    rcases cV_some h with ⟨S5, y6, hc, h⟩ | ⟨hc, hne⟩
    · refine j_callV C (run_S (As := [rf b o4, iv 0]) (rest := []) C (m_J7_fill_53178 hst (by decide) hc) cs_RX5_95 rfl hl.1.1 (by decide) (by decide) (by decide) dX5_tally_13) ?_
      refine j_iconst C dX5_tally_16 ?_
      refine k_istore_n (lv' := [(2, iv (-1)), (0, rf b a0), (1, rf b a1)]) C dX5_tally_17 rfl hl (by decide) rfl (fun ls hl => ?_)
      exact w_X5_tally_18 C hT hnm hr FU _ _ _ _ (by decide) h ls (hl.sub [1, 2, 0] rfl)
    · exact j_thrown C hT (run_S (As := [rf b o4, iv 0]) (rest := []) C (m_J7_fill_53178 hst (by decide) hc) cs_RX5_95 rfl hl.1.1 (by decide) (by decide) (by decide) dX5_tally_13) hne
  · exact j_thrown C hT (run_S (As := [rf b o1, iv 0]) (rest := []) C (m_J7_fill_53178 hst (by decide) hc) cs_RX5_95 rfl hl.1.1 (by decide) (by decide) (by decide) dX5_tally_5) hne
noncomputable def f_X5_tallied_85 (k23 : Option Nat → Option Nat → Int → Int → Int → AS → Option RS) (a0 : Option Nat) (a1 : Option Nat) (x3 : Int) (x4 : Int) (x5 : Int) (S : AS) : Option RS :=
  if x4 = 0 then
    rI x5 S
  else
    (chk (x4 + (-1))).bind fun z1 =>
    (chk (x5 + 1)).bind fun z2 =>
    k23 a0 a1 x3 z1 z2 S
set_option maxHeartbeats 4000000 in
set_option maxRecDepth 100000 in
theorem w_X5_tallied_85 {p : Program} {l : Launch} {e : Env} {R : Room} {s : State} {m : MethodId} {args : Array Value} {below : List Frame} {meth : Method} {c : Code} {b : Nat} {D : va_G} {dA : Nat → ClassId} {S0 : AS} {q : RS} (C : hp_C p l e R s m args below meth c b D dA S0 RX5 cX5_tallied 7 8 89) (hT : ∀ x ∈ c.exceptionTable.toList, False) (hnm : meth.name = "tallied") (hr : meth.sig.returnType = (some .int)) {k23 : Option Nat → Option Nat → Int → Int → Int → AS → Option RS} (hk23 : ∀ (a0 : Option Nat) (a1 : Option Nat) (x3 : Int) (x4 : Int) (x5 : Int) (S : AS), inR x3 → inR x4 → inR x5 → k23 a0 a1 x3 x4 x5 S = some q → ∀ ls : Array Slot, hp_L ls 7 [(0, rf b a0), (1, rf b a1), (3, iv x3), (4, iv x4), (5, iv x5)] → hp_J p l e R s m args below meth c b D dA S0 (hp_Q below b D dA S0 1 q args s) S 23 ls []) : ∀ (a0 : Option Nat) (a1 : Option Nat) (x3 : Int) (x4 : Int) (x5 : Int) (S : AS), inR x3 → inR x4 → inR x5 → f_X5_tallied_85 k23 a0 a1 x3 x4 x5 S = some q → ∀ ls : Array Slot, hp_L ls 7 [(0, rf b a0), (1, rf b a1), (3, iv x3), (4, iv x4), (5, iv x5)] → hp_J p l e R s m args below meth c b D dA S0 (hp_Q below b D dA S0 1 q args s) S 85 ls [] := by
  have hst : l.stackTraces = false := C.2.2.2.2.2.2.2.2.2.2.1
  intro a0 a1 x3 x4 x5 S hx3 hx4 hx5 h ls hl
  unfold f_X5_tallied_85 at h
  refine j_iload C dX5_tallied_85 (hl.at 3 rfl) ?_
  refine j_if_ne (tgt := 93) C dX5_tallied_87 (by decide) hx4 (fun b1 => ?_) (fun b1 => ?_)
  · rw [if_neg b1] at h
    obtain ⟨z1, g_z1, h⟩ := bd h
    refine k_iinc (k9 := 3) (lv' := [(4, iv z1), (0, rf b a0), (1, rf b a1), (3, iv x3), (5, iv x5)]) C dX5_tallied_93 hl rfl g_z1 (by decide) rfl (fun hz1 ls hl => ?_)
    obtain ⟨z2, g_z2, h⟩ := bd h
    refine k_iinc (k9 := 4) (lv' := [(5, iv z2), (4, iv z1), (0, rf b a0), (1, rf b a1), (3, iv x3)]) C dX5_tallied_96 hl rfl g_z2 (by decide) rfl (fun hz2 ls hl => ?_)
    refine j_goto (tgt := 23) C dX5_tallied_99 (by decide) ?_
    exact hk23 _ _ _ _ _ _ hx3 hz1 hz2 h ls (hl.sub [2, 3, 4, 1, 0] rfl)
  · rw [if_pos (Decidable.byContradiction b1)] at h
    refine j_iload C dX5_tallied_90 (hl.at 4 rfl) ?_
    exact j_iret C dX5_tallied_92 hr hx5 h
noncomputable def f_X5_tallied_60 (k23 : Option Nat → Option Nat → Int → Int → Int → AS → Option RS) (a0 : Option Nat) (a1 : Option Nat) (x3 : Int) (x4 : Int) (x5 : Int) (t0 : Int) (S : AS) : Option RS :=
  if x3 = 0 then
    if t0 = 0 then
      (chk (x5 + 1)).bind fun z1 =>
      k23 a0 a1 x3 x4 z1 S
    else
      f_X5_tallied_85 k23 a0 a1 x3 x4 x5 S
  else
    (gR S a0 6 6).bind fun o2 =>
    (aI S o2 8 x5).bind fun v3 =>
    if v3 < 2 then
      (chk (x5 + 1)).bind fun z4 =>
      k23 a0 a1 x3 x4 z4 S
    else
      f_X5_tallied_85 k23 a0 a1 x3 x4 x5 S
set_option maxHeartbeats 4000000 in
set_option maxRecDepth 100000 in
theorem w_X5_tallied_60 {p : Program} {l : Launch} {e : Env} {R : Room} {s : State} {m : MethodId} {args : Array Value} {below : List Frame} {meth : Method} {c : Code} {b : Nat} {D : va_G} {dA : Nat → ClassId} {S0 : AS} {q : RS} (C : hp_C p l e R s m args below meth c b D dA S0 RX5 cX5_tallied 7 8 89) (hT : ∀ x ∈ c.exceptionTable.toList, False) (hnm : meth.name = "tallied") (hr : meth.sig.returnType = (some .int)) {k23 : Option Nat → Option Nat → Int → Int → Int → AS → Option RS} (hk23 : ∀ (a0 : Option Nat) (a1 : Option Nat) (x3 : Int) (x4 : Int) (x5 : Int) (S : AS), inR x3 → inR x4 → inR x5 → k23 a0 a1 x3 x4 x5 S = some q → ∀ ls : Array Slot, hp_L ls 7 [(0, rf b a0), (1, rf b a1), (3, iv x3), (4, iv x4), (5, iv x5)] → hp_J p l e R s m args below meth c b D dA S0 (hp_Q below b D dA S0 1 q args s) S 23 ls []) : ∀ (a0 : Option Nat) (a1 : Option Nat) (x3 : Int) (x4 : Int) (x5 : Int) (t0 : Int) (S : AS), inR x3 → inR x4 → inR x5 → inR t0 → f_X5_tallied_60 k23 a0 a1 x3 x4 x5 t0 S = some q → ∀ ls : Array Slot, hp_L ls 7 [(0, rf b a0), (1, rf b a1), (3, iv x3), (4, iv x4), (5, iv x5)] → hp_J p l e R s m args below meth c b D dA S0 (hp_Q below b D dA S0 1 q args s) S 60 ls [iv t0] := by
  have hst : l.stackTraces = false := C.2.2.2.2.2.2.2.2.2.2.1
  intro a0 a1 x3 x4 x5 t0 S hx3 hx4 hx5 ht0 h ls hl
  unfold f_X5_tallied_60 at h
  refine k_istore (lv' := [(6, iv t0), (0, rf b a0), (1, rf b a1), (3, iv x3), (4, iv x4), (5, iv x5)]) C dX5_tallied_60 hl (by decide) rfl (fun ls hl => ?_)
  refine j_iload_n C dX5_tallied_62 rfl (hl.at 3 rfl) ?_
  refine j_if_eq (tgt := 80) C dX5_tallied_63 (by decide) hx3 (fun b1 => ?_) (fun b1 => ?_)
  · rw [if_pos b1] at h
    refine j_iload C dX5_tallied_80 (hl.at 0 rfl) ?_
    refine j_if_eq (tgt := 96) C dX5_tallied_82 (by decide) ht0 (fun b1 => ?_) (fun b1 => ?_)
    · rw [if_pos b1] at h
      obtain ⟨z1, g_z1, h⟩ := bd h
      refine k_iinc (k9 := 5) (lv' := [(5, iv z1), (6, iv t0), (0, rf b a0), (1, rf b a1), (3, iv x3), (4, iv x4)]) C dX5_tallied_96 hl rfl g_z1 (by decide) rfl (fun hz1 ls hl => ?_)
      refine j_goto (tgt := 23) C dX5_tallied_99 (by decide) ?_
      exact hk23 _ _ _ _ _ _ hx3 hx4 hz1 h ls (hl.sub [2, 3, 4, 5, 0] rfl)
    · rw [if_neg b1] at h
      exact w_X5_tallied_85 C hT hnm hr hk23 _ _ _ _ _ _ hx3 hx4 hx5 h ls (hl.sub [1, 2, 3, 4, 5] rfl)
  · rw [if_neg b1] at h
    refine j_aload_n C dX5_tallied_66 rfl (hl.at 1 rfl) ?_
    obtain ⟨o2, g_o2, h⟩ := bd h
    refine j_gR C dX5_tallied_67 fl_RX5_40 rfl g_o2 ?_
    refine j_iload C dX5_tallied_70 (hl.at 5 rfl) ?_
    obtain ⟨v3, g_v3, h⟩ := bd h
    refine j_iald C dX5_tallied_72 hx5 g_v3 (fun hv3 => ?_)
    refine j_iconst C dX5_tallied_73 ?_
    refine j_icmp_lt (tgt := 96) C dX5_tallied_74 (by decide) hv3 (by decide) (fun b1 => ?_) (fun b1 => ?_)
    · rw [if_pos b1] at h
      obtain ⟨z4, g_z4, h⟩ := bd h
      refine k_iinc (k9 := 5) (lv' := [(5, iv z4), (6, iv t0), (0, rf b a0), (1, rf b a1), (3, iv x3), (4, iv x4)]) C dX5_tallied_96 hl rfl g_z4 (by decide) rfl (fun hz4 ls hl => ?_)
      refine j_goto (tgt := 23) C dX5_tallied_99 (by decide) ?_
      exact hk23 _ _ _ _ _ _ hx3 hx4 hz4 h ls (hl.sub [2, 3, 4, 5, 0] rfl)
    · rw [if_neg b1] at h
      refine j_goto (tgt := 85) C dX5_tallied_77 (by decide) ?_
      exact w_X5_tallied_85 C hT hnm hr hk23 _ _ _ _ _ _ hx3 hx4 hx5 h ls (hl.sub [1, 2, 3, 4, 5] rfl)
noncomputable def f_X5_tallied_59 (k23 : Option Nat → Option Nat → Int → Int → Int → AS → Option RS) (a0 : Option Nat) (a1 : Option Nat) (x3 : Int) (x4 : Int) (x5 : Int) (S : AS) : Option RS :=
  f_X5_tallied_60 k23 a0 a1 x3 x4 x5 0 S
set_option maxHeartbeats 4000000 in
set_option maxRecDepth 100000 in
theorem w_X5_tallied_59 {p : Program} {l : Launch} {e : Env} {R : Room} {s : State} {m : MethodId} {args : Array Value} {below : List Frame} {meth : Method} {c : Code} {b : Nat} {D : va_G} {dA : Nat → ClassId} {S0 : AS} {q : RS} (C : hp_C p l e R s m args below meth c b D dA S0 RX5 cX5_tallied 7 8 89) (hT : ∀ x ∈ c.exceptionTable.toList, False) (hnm : meth.name = "tallied") (hr : meth.sig.returnType = (some .int)) {k23 : Option Nat → Option Nat → Int → Int → Int → AS → Option RS} (hk23 : ∀ (a0 : Option Nat) (a1 : Option Nat) (x3 : Int) (x4 : Int) (x5 : Int) (S : AS), inR x3 → inR x4 → inR x5 → k23 a0 a1 x3 x4 x5 S = some q → ∀ ls : Array Slot, hp_L ls 7 [(0, rf b a0), (1, rf b a1), (3, iv x3), (4, iv x4), (5, iv x5)] → hp_J p l e R s m args below meth c b D dA S0 (hp_Q below b D dA S0 1 q args s) S 23 ls []) : ∀ (a0 : Option Nat) (a1 : Option Nat) (x3 : Int) (x4 : Int) (x5 : Int) (S : AS), inR x3 → inR x4 → inR x5 → f_X5_tallied_59 k23 a0 a1 x3 x4 x5 S = some q → ∀ ls : Array Slot, hp_L ls 7 [(0, rf b a0), (1, rf b a1), (3, iv x3), (4, iv x4), (5, iv x5)] → hp_J p l e R s m args below meth c b D dA S0 (hp_Q below b D dA S0 1 q args s) S 59 ls [] := by
  have hst : l.stackTraces = false := C.2.2.2.2.2.2.2.2.2.2.1
  intro a0 a1 x3 x4 x5 S hx3 hx4 hx5 h ls hl
  unfold f_X5_tallied_59 at h
  refine j_iconst C dX5_tallied_59 ?_
  exact w_X5_tallied_60 C hT hnm hr hk23 _ _ _ _ _ _ _ hx3 hx4 hx5 (by decide) h ls (hl.sub [0, 1, 2, 3, 4] rfl)
noncomputable def f_X5_tallied_23 (n : Nat) (a0 : Option Nat) (a1 : Option Nat) (x3 : Int) (x4 : Int) (x5 : Int) (S : AS) : Option RS := match n with
  | 0 => none
  | n + 1 =>
    (gR S a1 5 6).bind fun o1 =>
    (gI S o1 1 3).bind fun v2 =>
    if v2 ≤ x5 then
      rI (-1) S
    else
      (gR S a0 6 5).bind fun o3 =>
      (aI S o3 8 x5).bind fun v4 =>
      if v4 ≤ 0 then
        f_X5_tallied_59 (f_X5_tallied_23 n) a0 a1 x3 x4 x5 S
      else
        (gR S a0 6 6).bind fun o5 =>
        (aI S o5 8 x5).bind fun v6 =>
        if v6 = 0 then
          f_X5_tallied_60 (f_X5_tallied_23 n) a0 a1 x3 x4 x5 1 S
        else
          f_X5_tallied_59 (f_X5_tallied_23 n) a0 a1 x3 x4 x5 S
set_option maxHeartbeats 4000000 in
set_option maxRecDepth 100000 in
theorem w_X5_tallied_23 {p : Program} {l : Launch} {e : Env} {R : Room} {s : State} {m : MethodId} {args : Array Value} {below : List Frame} {meth : Method} {c : Code} {b : Nat} {D : va_G} {dA : Nat → ClassId} {S0 : AS} {q : RS} (C : hp_C p l e R s m args below meth c b D dA S0 RX5 cX5_tallied 7 8 89) (hT : ∀ x ∈ c.exceptionTable.toList, False) (hnm : meth.name = "tallied") (hr : meth.sig.returnType = (some .int)) : ∀ (n : Nat), ∀ (a0 : Option Nat) (a1 : Option Nat) (x3 : Int) (x4 : Int) (x5 : Int) (S : AS), inR x3 → inR x4 → inR x5 → f_X5_tallied_23 n a0 a1 x3 x4 x5 S = some q → ∀ ls : Array Slot, hp_L ls 7 [(0, rf b a0), (1, rf b a1), (3, iv x3), (4, iv x4), (5, iv x5)] → hp_J p l e R s m args below meth c b D dA S0 (hp_Q below b D dA S0 1 q args s) S 23 ls [] := by
  have hst : l.stackTraces = false := C.2.2.2.2.2.2.2.2.2.2.1
  intro n
  induction n with
  | zero =>
    intro a0 a1 x3 x4 x5 S hx3 hx4 hx5 h
    cases h
  | succ n ih =>
    intro a0 a1 x3 x4 x5 S hx3 hx4 hx5 h ls hl
    unfold f_X5_tallied_23 at h
    refine j_iload C dX5_tallied_23 (hl.at 4 rfl) ?_
    refine j_aload_n C dX5_tallied_25 rfl (hl.at 1 rfl) ?_
    obtain ⟨o1, g_o1, h⟩ := bd h
    refine j_gR C dX5_tallied_26 fl_RX5_77 rfl g_o1 ?_
    obtain ⟨v2, g_v2, h⟩ := bd h
    refine j_gI C dX5_tallied_29 fl_RX5_110 (Or.inl rfl) g_v2 (fun hv2 => ?_)
    refine j_icmp_ge (tgt := 102) C dX5_tallied_32 (by decide) hx5 hv2 (fun b1 => ?_) (fun b1 => ?_)
    · rw [if_pos b1] at h
      refine j_iconst C dX5_tallied_102 ?_
      exact j_iret C dX5_tallied_103 hr (by decide) h
    · rw [if_neg b1] at h
      refine j_aload_n C dX5_tallied_35 rfl (hl.at 0 rfl) ?_
      obtain ⟨o3, g_o3, h⟩ := bd h
      refine j_gR C dX5_tallied_36 fl_RX5_37 rfl g_o3 ?_
      refine j_iload C dX5_tallied_39 (hl.at 4 rfl) ?_
      obtain ⟨v4, g_v4, h⟩ := bd h
      refine j_iald C dX5_tallied_41 hx5 g_v4 (fun hv4 => ?_)
      refine j_if_le (tgt := 59) C dX5_tallied_42 (by decide) hv4 (fun b1 => ?_) (fun b1 => ?_)
      · rw [if_pos b1] at h
        exact w_X5_tallied_59 C hT hnm hr ih _ _ _ _ _ _ hx3 hx4 hx5 h ls (hl.sub [0, 1, 2, 3, 4] rfl)
      · rw [if_neg b1] at h
        refine j_aload_n C dX5_tallied_45 rfl (hl.at 0 rfl) ?_
        obtain ⟨o5, g_o5, h⟩ := bd h
        refine j_gR C dX5_tallied_46 fl_RX5_40 rfl g_o5 ?_
        refine j_iload C dX5_tallied_49 (hl.at 4 rfl) ?_
        obtain ⟨v6, g_v6, h⟩ := bd h
        refine j_iald C dX5_tallied_51 hx5 g_v6 (fun hv6 => ?_)
        refine j_if_ne (tgt := 59) C dX5_tallied_52 (by decide) hv6 (fun b1 => ?_) (fun b1 => ?_)
        · rw [if_neg b1] at h
          exact w_X5_tallied_59 C hT hnm hr ih _ _ _ _ _ _ hx3 hx4 hx5 h ls (hl.sub [0, 1, 2, 3, 4] rfl)
        · rw [if_pos (Decidable.byContradiction b1)] at h
          refine j_iconst C dX5_tallied_55 ?_
          refine j_goto (tgt := 60) C dX5_tallied_56 (by decide) ?_
          exact w_X5_tallied_60 C hT hnm hr ih _ _ _ _ _ _ _ hx3 hx4 hx5 (by decide) h ls (hl.sub [0, 1, 2, 3, 4] rfl)
noncomputable def f_X5_tallied (a0 : Option Nat) (a1 : Option Nat) (x2 : Int) (x3 : Int) (S : AS) : Option RS :=
  if 0 ≤ x2 then
    gd (isK S a0 6) <|
    cV (f_X5_tally a0 a1 S) fun S1 =>
    f_X5_tallied_23 FU a0 a1 x3 x2 0 S1
  else
    rX 1 S
set_option maxHeartbeats 4000000 in
set_option maxRecDepth 100000 in
theorem m_X5_tallied {l : Launch} {b : Nat} {D : va_G} {dA : Nat → ClassId} (hst : l.stackTraces = false) {a0 : Option Nat} {a1 : Option Nat} {x2 : Int} {x3 : Int} {S : AS} {q : RS} (hx2 : inR x2) (hx3 : inR x3) (h : f_X5_tallied a0 a1 x2 x3 S = some q) : hp_M l b D dA yX5_tallied cX5_tallied 7 (some .int) 8 89 [rf b a0, rf b a1, iv x2, iv x3] S 1 q := by
  have hcat : ∀ v ∈ ([rf b a0, rf b a1, iv x2, iv x3] : List Value), v.category = 1 := (by intro v hv; simp only [List.mem_cons, List.not_mem_nil, or_false] at hv; rcases hv with rfl | rfl | rfl | rfl <;> first | exact cat_iv _ | exact cat_rf _ _)
  refine hp_ofJ (own := RX5) hst (by decide +kernel) rfl hcat (Nat.le_of_ble_eq_true rfl) ?_
  intro p e R s m args below meth c C hT hnm hr ls hl9
  have hl : hp_L ls 7 [(0, rf b a0), (1, rf b a1), (2, iv x2), (3, iv x3)] := hp_L.of hl9 hcat
  unfold f_X5_tallied at h
  refine j_iload_n C dX5_tallied_0 rfl (hl.at 2 rfl) ?_
  refine j_if_ge (tgt := 12) C dX5_tallied_1 (by decide) hx2 (fun b1 => ?_) (fun b1 => ?_)
  · rw [if_pos b1] at h
    refine j_aload_n C dX5_tallied_12 rfl (hl.at 0 rfl) ?_
    refine j_aload_n C dX5_tallied_13 rfl (hl.at 1 rfl) ?_
    obtain ⟨c3, h⟩ := gd_some h
    rcases cV_some h with ⟨S1, y2, hc, h⟩ | ⟨hc, hne⟩
    · refine j_callV C (run_W (As := [rf b a1]) (rest := []) C (m_X5_tally hst hc) cv_RX5_227 (by decide) rfl c3 rfl hl (by decide) (by decide) (by decide) dX5_tallied_14) ?_
      refine j_iload_n C dX5_tallied_17 rfl (hl.at 2 rfl) ?_
      refine k_istore (lv' := [(4, iv x2), (0, rf b a0), (1, rf b a1), (2, iv x2), (3, iv x3)]) C dX5_tallied_18 hl (by decide) rfl (fun ls hl => ?_)
      refine j_iconst C dX5_tallied_20 ?_
      refine k_istore (lv' := [(5, iv 0), (4, iv x2), (0, rf b a0), (1, rf b a1), (2, iv x2), (3, iv x3)]) C dX5_tallied_21 hl (by decide) rfl (fun ls hl => ?_)
      exact w_X5_tallied_23 C hT hnm hr FU _ _ _ _ _ _ hx3 hx2 (by decide) h ls (hl.sub [2, 3, 5, 1, 0] rfl)
    · exact j_thrown C hT (run_W (As := [rf b a1]) (rest := []) C (m_X5_tally hst hc) cv_RX5_227 (by decide) rfl c3 rfl hl (by decide) (by decide) (by decide) dX5_tallied_14) hne
  · rw [if_neg b1] at h
    exact j_throw C hT tw_RX5_141 dX5_tallied_4 dX5_tallied_7 dX5_tallied_8 dX5_tallied_11 hl.1.1 (by decide) (by decide) h
noncomputable def f_X5_putBehindParts_31 (n : Nat) (rc : Option Nat → Option Nat → Int → AS → Option RS) (a0 : Option Nat) (a1 : Option Nat) (x2 : Int) (x3 : Int) (S : AS) : Option RS := match n with
  | 0 => none
  | n + 1 =>
    (gR S a0 5 6).bind fun o1 =>
    (gI S o1 1 2).bind fun v2 =>
    if v2 ≤ x3 then
      gd (isK S a1 3) <|
      cV (f_X2_add a1 a0 S) fun S3 =>
      rV S3
    else
      (gR S a0 5 6).bind fun o6 =>
      (gR S o6 1 1).bind fun o7 =>
      (aR S o7 10 x3).bind fun o8 =>
      (gR S o8 4 0).bind fun o9 =>
      (chk (x2 + 1)).bind fun z10 =>
      cV (rc o9 a1 z10 S) fun S11 =>
      (chk (x3 + 1)).bind fun z13 =>
      f_X5_putBehindParts_31 n rc a0 a1 x2 z13 S11
set_option maxHeartbeats 4000000 in
set_option maxRecDepth 100000 in
theorem w_X5_putBehindParts_31 {p : Program} {l : Launch} {e : Env} {R : Room} {s : State} {m : MethodId} {args : Array Value} {below : List Frame} {meth : Method} {c : Code} {b : Nat} {D : va_G} {dA : Nat → ClassId} {S0 : AS} {q : RS} {d9 : Nat} (C : hp_C p l e R s m args below meth c b D dA S0 RX5 cX5_putBehindParts 4 (7 + (d9 + 1)) (37 + (d9 + 1) * 24)) (hT : ∀ x ∈ c.exceptionTable.toList, False) (hnm : meth.name = "putBehindParts") (hr : meth.sig.returnType = none) {rc : Option Nat → Option Nat → Int → AS → Option RS} (hrc : ∀ (a0 : Option Nat) (a1 : Option Nat) (x2 : Int) (S : AS) (q : RS), inR x2 → rc a0 a1 x2 S = some q → hp_M l b D dA yX5_putBehindParts cX5_putBehindParts 4 none (7 + d9) (37 + d9 * 24) [rf b a0, rf b a1, iv x2] S 0 q) : ∀ (n : Nat), ∀ (a0 : Option Nat) (a1 : Option Nat) (x2 : Int) (x3 : Int) (S : AS), inR x2 → inR x3 → f_X5_putBehindParts_31 n rc a0 a1 x2 x3 S = some q → ∀ ls : Array Slot, hp_L ls 4 [(0, rf b a0), (1, rf b a1), (2, iv x2), (3, iv x3)] → hp_J p l e R s m args below meth c b D dA S0 (hp_Q below b D dA S0 0 q args s) S 31 ls [] := by
  have hst : l.stackTraces = false := C.2.2.2.2.2.2.2.2.2.2.1
  intro n
  induction n with
  | zero =>
    intro a0 a1 x2 x3 S hx2 hx3 h
    cases h
  | succ n ih =>
    intro a0 a1 x2 x3 S hx2 hx3 h ls hl
    unfold f_X5_putBehindParts_31 at h
    refine j_iload_n C dX5_putBehindParts_31 rfl (hl.at 3 rfl) ?_
    refine j_aload_n C dX5_putBehindParts_32 rfl (hl.at 0 rfl) ?_
    obtain ⟨o1, g_o1, h⟩ := bd h
    refine j_gR C dX5_putBehindParts_33 fl_RX5_77 rfl g_o1 ?_
    obtain ⟨v2, g_v2, h⟩ := bd h
    refine j_gI C dX5_putBehindParts_36 fl_RX5_81 (Or.inl rfl) g_v2 (fun hv2 => ?_)
    refine j_icmp_ge (tgt := 67) C dX5_putBehindParts_39 (by decide) hx3 hv2 (fun b1 => ?_) (fun b1 => ?_)
    · rw [if_pos b1] at h
      refine j_aload_n C dX5_putBehindParts_67 rfl (hl.at 1 rfl) ?_
      refine j_aload_n C dX5_putBehindParts_68 rfl (hl.at 0 rfl) ?_
      obtain ⟨c5, h⟩ := gd_some h
      rcases cV_some h with ⟨S3, y4, hc, h⟩ | ⟨hc, hne⟩
      · refine j_callV C (run_W (As := [rf b a0]) (rest := []) C (m_X2_add hst hc) cv_RX5_233 (by decide) rfl c5 rfl hl (by decide) (by omega) (by omega) dX5_putBehindParts_69) ?_
        exact j_vret C dX5_putBehindParts_72 hr h
      · exact j_thrown C hT (run_W (As := [rf b a0]) (rest := []) C (m_X2_add hst hc) cv_RX5_233 (by decide) rfl c5 rfl hl (by decide) (by omega) (by omega) dX5_putBehindParts_69) hne
    · rw [if_neg b1] at h
      refine j_aload_n C dX5_putBehindParts_42 rfl (hl.at 0 rfl) ?_
      obtain ⟨o6, g_o6, h⟩ := bd h
      refine j_gR C dX5_putBehindParts_43 fl_RX5_77 rfl g_o6 ?_
      obtain ⟨o7, g_o7, h⟩ := bd h
      refine j_gR C dX5_putBehindParts_46 fl_RX5_209 rfl g_o7 ?_
      refine j_iload_n C dX5_putBehindParts_49 rfl (hl.at 3 rfl) ?_
      obtain ⟨o8, g_o8, h⟩ := bd h
      refine j_aald C dX5_putBehindParts_50 (by decide) hx3 g_o8 ?_
      obtain ⟨o9, g_o9, h⟩ := bd h
      refine j_gR C dX5_putBehindParts_51 fl_RX5_205 rfl g_o9 ?_
      refine j_aload_n C dX5_putBehindParts_54 rfl (hl.at 1 rfl) ?_
      refine j_iload_n C dX5_putBehindParts_55 rfl (hl.at 2 rfl) ?_
      refine j_iconst C dX5_putBehindParts_56 ?_
      obtain ⟨z10, g_z10, h⟩ := bd h
      refine j_iadd C dX5_putBehindParts_57 g_z10 (fun hz10 => ?_)
      rcases cV_some h with ⟨S11, y12, hc, h⟩ | ⟨hc, hne⟩
      · refine j_callV C (run_S (As := [rf b o9, rf b a1, iv z10]) (rest := []) C (hrc _ _ _ _ _ hz10 hc) cs_RX5_195 rfl hl.1.1 (by decide) (by omega) (by omega) dX5_putBehindParts_58) ?_
        obtain ⟨z13, g_z13, h⟩ := bd h
        refine k_iinc (k9 := 3) (lv' := [(3, iv z13), (0, rf b a0), (1, rf b a1), (2, iv x2)]) C dX5_putBehindParts_61 hl rfl g_z13 (by decide) rfl (fun hz13 ls hl => ?_)
        refine j_goto (tgt := 31) C dX5_putBehindParts_64 (by decide) ?_
        exact ih _ _ _ _ _ hx2 hz13 h ls (hl.sub [1, 2, 3, 0] rfl)
      · exact j_thrown C hT (run_S (As := [rf b o9, rf b a1, iv z10]) (rest := []) C (hrc _ _ _ _ _ hz10 hc) cs_RX5_195 rfl hl.1.1 (by decide) (by omega) (by omega) dX5_putBehindParts_58) hne
noncomputable def f_X5_putBehindParts (d9 : Nat) (a0 : Option Nat) (a1 : Option Nat) (x2 : Int) (S : AS) : Option RS := match d9 with
  | 0 => none
  | d9 + 1 =>
    let rc := f_X5_putBehindParts d9
    if 24 ≤ x2 then
      rV S
    else
      (gR S a1 3 1).bind fun o1 =>
      (gI S a0 5 0).bind fun v2 =>
      (aI S o1 9 v2).bind fun v3 =>
      if v3 = 0 then
        (gR S a1 3 1).bind fun o4 =>
        (gI S a0 5 0).bind fun v5 =>
        (sZ S o4 v5 1).bind fun S6 =>
        f_X5_putBehindParts_31 FU rc a0 a1 x2 0 S6
      else
        rV S
set_option maxHeartbeats 4000000 in
set_option maxRecDepth 100000 in
theorem m_X5_putBehindParts {l : Launch} {b : Nat} {D : va_G} {dA : Nat → ClassId} (hst : l.stackTraces = false) : ∀ (d9 : Nat) {a0 : Option Nat} {a1 : Option Nat} {x2 : Int} {S : AS} {q : RS} (hx2 : inR x2) (h : f_X5_putBehindParts d9 a0 a1 x2 S = some q), hp_M l b D dA yX5_putBehindParts cX5_putBehindParts 4 none (7 + d9) (37 + d9 * 24) [rf b a0, rf b a1, iv x2] S 0 q := by
  intro d9
  induction d9 with
  | zero =>
    intro a0 a1 x2 S q hx2 h
    cases h
  | succ d9 ih9 =>
    intro a0 a1 x2 S q hx2 h
    have hcat : ∀ v ∈ ([rf b a0, rf b a1, iv x2] : List Value), v.category = 1 := (by intro v hv; simp only [List.mem_cons, List.not_mem_nil, or_false] at hv; rcases hv with rfl | rfl | rfl <;> first | exact cat_iv _ | exact cat_rf _ _)
    refine hp_ofJ (own := RX5) hst (by decide +kernel) rfl hcat (Nat.le_of_ble_eq_true rfl) ?_
    intro p e R s m args below meth c C hT hnm hr ls hl9
    have hl : hp_L ls 4 [(0, rf b a0), (1, rf b a1), (2, iv x2)] := hp_L.of hl9 hcat
    unfold f_X5_putBehindParts at h
    have hrc : ∀ (a0 : Option Nat) (a1 : Option Nat) (x2 : Int) (S : AS) (q : RS), inR x2 → f_X5_putBehindParts d9 a0 a1 x2 S = some q → hp_M l b D dA yX5_putBehindParts cX5_putBehindParts 4 none (7 + d9) (37 + d9 * 24) [rf b a0, rf b a1, iv x2] S 0 q := fun a0 a1 x2 S q hx2 h => ih9 hx2 h
    generalize f_X5_putBehindParts d9 = rc at h hrc
    refine j_iload_n C dX5_putBehindParts_0 rfl (hl.at 2 rfl) ?_
    refine j_bipush (x := 24) C dX5_putBehindParts_1 (by decide) ?_
    refine j_icmp_ge (tgt := 18) C dX5_putBehindParts_3 (by decide) hx2 (by decide) (fun b1 => ?_) (fun b1 => ?_)
    · rw [if_pos b1] at h
      exact j_vret C dX5_putBehindParts_18 hr h
    · rw [if_neg b1] at h
      refine j_aload_n C dX5_putBehindParts_6 rfl (hl.at 1 rfl) ?_
      obtain ⟨o1, g_o1, h⟩ := bd h
      refine j_gR C dX5_putBehindParts_7 fl_RX5_230 rfl g_o1 ?_
      refine j_aload_n C dX5_putBehindParts_10 rfl (hl.at 0 rfl) ?_
      obtain ⟨v2, g_v2, h⟩ := bd h
      refine j_gI C dX5_putBehindParts_11 fl_RX5_53 (Or.inl rfl) g_v2 (fun hv2 => ?_)
      obtain ⟨v3, g_v3, h⟩ := bd h
      refine j_zald C dX5_putBehindParts_14 hv2 g_v3 (fun hv3 => ?_)
      refine j_if_eq (tgt := 19) C dX5_putBehindParts_15 (by decide) hv3 (fun b1 => ?_) (fun b1 => ?_)
      · rw [if_pos b1] at h
        refine j_aload_n C dX5_putBehindParts_19 rfl (hl.at 1 rfl) ?_
        obtain ⟨o4, g_o4, h⟩ := bd h
        refine j_gR C dX5_putBehindParts_20 fl_RX5_230 rfl g_o4 ?_
        refine j_aload_n C dX5_putBehindParts_23 rfl (hl.at 0 rfl) ?_
        obtain ⟨v5, g_v5, h⟩ := bd h
        refine j_gI C dX5_putBehindParts_24 fl_RX5_53 (Or.inl rfl) g_v5 (fun hv5 => ?_)
        refine j_iconst C dX5_putBehindParts_27 ?_
        obtain ⟨S6, g_S6, h⟩ := bd h
        refine j_zast C dX5_putBehindParts_28 hv5 g_S6 ?_
        refine j_iconst C dX5_putBehindParts_29 ?_
        refine k_istore_n (lv' := [(3, iv 0), (0, rf b a0), (1, rf b a1), (2, iv x2)]) C dX5_putBehindParts_30 rfl hl (by decide) rfl (fun ls hl => ?_)
        exact w_X5_putBehindParts_31 C hT hnm hr hrc FU _ _ _ _ _ hx2 (by decide) h ls (hl.sub [1, 2, 3, 0] rfl)
      · rw [if_neg b1] at h
        exact j_vret C dX5_putBehindParts_18 hr h
noncomputable def f_X5_orderFrom (a0 : Option Nat) (a1 : Option Nat) (S : AS) : Option RS :=
  (gR S a0 6 2).bind fun o1 =>
  gd (isK S o1 3) <|
  cV (f_X2_restart o1 S) fun S2 =>
  (gR S2 a0 6 2).bind fun o5 =>
  cV (f_X5_putBehindParts 30 a1 o5 0 S2) fun S6 =>
  rV S6
set_option maxHeartbeats 4000000 in
set_option maxRecDepth 100000 in
theorem m_X5_orderFrom {l : Launch} {b : Nat} {D : va_G} {dA : Nat → ClassId} (hst : l.stackTraces = false) {a0 : Option Nat} {a1 : Option Nat} {S : AS} {q : RS} (h : f_X5_orderFrom a0 a1 S = some q) : hp_M l b D dA yX5_orderFrom cX5_orderFrom 2 none 38 780 [rf b a0, rf b a1] S 0 q := by
  have hcat : ∀ v ∈ ([rf b a0, rf b a1] : List Value), v.category = 1 := (by intro v hv; simp only [List.mem_cons, List.not_mem_nil, or_false] at hv; rcases hv with rfl | rfl <;> first | exact cat_iv _ | exact cat_rf _ _)
  refine hp_ofJ (own := RX5) hst (by decide +kernel) rfl hcat (Nat.le_of_ble_eq_true rfl) ?_
  intro p e R s m args below meth c C hT hnm hr ls hl9
  have hl : hp_L ls 2 [(0, rf b a0), (1, rf b a1)] := hp_L.of hl9 hcat
  unfold f_X5_orderFrom at h
  refine j_aload_n C dX5_orderFrom_0 rfl (hl.at 0 rfl) ?_
  obtain ⟨o1, g_o1, h⟩ := bd h
  refine j_gR C dX5_orderFrom_1 fl_RX5_22 rfl g_o1 ?_
  obtain ⟨c4, h⟩ := gd_some h
  rcases cV_some h with ⟨S2, y3, hc, h⟩ | ⟨hc, hne⟩
  · refine j_callV C (run_W (As := []) (rest := []) C (m_X2_restart hst hc) cv_RX5_194 (by decide) rfl c4 rfl hl (by decide) (by decide) (by decide) dX5_orderFrom_4) ?_
    refine j_aload_n C dX5_orderFrom_7 rfl (hl.at 1 rfl) ?_
    refine j_aload_n C dX5_orderFrom_8 rfl (hl.at 0 rfl) ?_
    obtain ⟨o5, g_o5, h⟩ := bd h
    refine j_gR C dX5_orderFrom_9 fl_RX5_22 rfl g_o5 ?_
    refine j_iconst C dX5_orderFrom_12 ?_
    rcases cV_some h with ⟨S6, y7, hc, h⟩ | ⟨hc, hne⟩
    · refine j_callV C (run_S (As := [rf b a1, rf b o5, iv 0]) (rest := []) C (m_X5_putBehindParts hst 30 (by decide) hc) cs_RX5_195 rfl hl.1.1 (by decide) (by decide) (by decide) dX5_orderFrom_13) ?_
      exact j_vret C dX5_orderFrom_16 hr h
    · exact j_thrown C hT (run_S (As := [rf b a1, rf b o5, iv 0]) (rest := []) C (m_X5_putBehindParts hst 30 (by decide) hc) cs_RX5_195 rfl hl.1.1 (by decide) (by decide) (by decide) dX5_orderFrom_13) hne
  · exact j_thrown C hT (run_W (As := []) (rest := []) C (m_X2_restart hst hc) cv_RX5_194 (by decide) rfl c4 rfl hl (by decide) (by decide) (by decide) dX5_orderFrom_4) hne
noncomputable def f_X5_isWithin (a0 : Option Nat) (a1 : Option Nat) (a2 : Option Nat) (S : AS) : Option RS :=
  gd (isK S a0 6) <|
  cV (f_X5_orderFrom a0 a2 S) fun S1 =>
  (gR S1 a0 6 2).bind fun o4 =>
  (gR S1 o4 3 1).bind fun o5 =>
  (gI S1 a1 5 0).bind fun v6 =>
  (aI S1 o5 9 v6).bind fun v7 =>
  rZ v7 S1
set_option maxHeartbeats 4000000 in
set_option maxRecDepth 100000 in
theorem m_X5_isWithin {l : Launch} {b : Nat} {D : va_G} {dA : Nat → ClassId} (hst : l.stackTraces = false) {a0 : Option Nat} {a1 : Option Nat} {a2 : Option Nat} {S : AS} {q : RS} (h : f_X5_isWithin a0 a1 a2 S = some q) : hp_M l b D dA yX5_isWithin cX5_isWithin 3 (some .boolean) 39 801 [rf b a0, rf b a1, rf b a2] S 1 q := by
  have hcat : ∀ v ∈ ([rf b a0, rf b a1, rf b a2] : List Value), v.category = 1 := (by intro v hv; simp only [List.mem_cons, List.not_mem_nil, or_false] at hv; rcases hv with rfl | rfl | rfl <;> first | exact cat_iv _ | exact cat_rf _ _)
  refine hp_ofJ (own := RX5) hst (by decide +kernel) rfl hcat (Nat.le_of_ble_eq_true rfl) ?_
  intro p e R s m args below meth c C hT hnm hr ls hl9
  have hl : hp_L ls 3 [(0, rf b a0), (1, rf b a1), (2, rf b a2)] := hp_L.of hl9 hcat
  unfold f_X5_isWithin at h
  refine j_aload_n C dX5_isWithin_0 rfl (hl.at 0 rfl) ?_
  refine j_aload_n C dX5_isWithin_1 rfl (hl.at 2 rfl) ?_
  obtain ⟨c3, h⟩ := gd_some h
  rcases cV_some h with ⟨S1, y2, hc, h⟩ | ⟨hc, hne⟩
  · refine j_callV C (run_W (As := [rf b a2]) (rest := []) C (m_X5_orderFrom hst hc) cv_RX5_236 (by decide) rfl c3 rfl hl (by decide) (by decide) (by decide) dX5_isWithin_2) ?_
    refine j_aload_n C dX5_isWithin_5 rfl (hl.at 0 rfl) ?_
    obtain ⟨o4, g_o4, h⟩ := bd h
    refine j_gR C dX5_isWithin_6 fl_RX5_22 rfl g_o4 ?_
    obtain ⟨o5, g_o5, h⟩ := bd h
    refine j_gR C dX5_isWithin_9 fl_RX5_230 rfl g_o5 ?_
    refine j_aload_n C dX5_isWithin_12 rfl (hl.at 1 rfl) ?_
    obtain ⟨v6, g_v6, h⟩ := bd h
    refine j_gI C dX5_isWithin_13 fl_RX5_53 (Or.inl rfl) g_v6 (fun hv6 => ?_)
    obtain ⟨v7, g_v7, h⟩ := bd h
    refine j_zald C dX5_isWithin_16 hv6 g_v7 (fun hv7 => ?_)
    exact j_zret C dX5_isWithin_17 hr h
  · exact j_thrown C hT (run_W (As := [rf b a2]) (rest := []) C (m_X5_orderFrom hst hc) cv_RX5_236 (by decide) rfl c3 rfl hl (by decide) (by decide) (by decide) dX5_isWithin_2) hne
noncomputable def f_X5_layersBelow_37 (n : Nat) (k7 : Option Nat → Option Nat → Int → AS → Option RS) (a0 : Option Nat) (a1 : Option Nat) (x2 : Int) (a3 : Option Nat) (x4 : Int) (x5 : Int) (S : AS) : Option RS := match n with
  | 0 => none
  | n + 1 =>
    (gI S a3 1 2).bind fun v1 =>
    if v1 ≤ x5 then
      (gR S a0 6 4).bind fun o2 =>
      (gR S a0 6 2).bind fun o3 =>
      (gR S o3 3 0).bind fun o4 =>
      (aR S o4 11 x2).bind fun o5 =>
      (gI S o5 5 0).bind fun v6 =>
      (sI S o2 8 v6 x4).bind fun S7 =>
      (chk (x2 + 1)).bind fun z8 =>
      k7 a0 a1 z8 S7
    else
      (gR S a0 6 4).bind fun o9 =>
      (gR S a3 1 1).bind fun o10 =>
      (aR S o10 10 x5).bind fun o11 =>
      (gR S o11 4 0).bind fun o12 =>
      (gI S o12 5 0).bind fun v13 =>
      (aI S o9 8 v13).bind fun v14 =>
      (chk (1 + v14)).bind fun z15 =>
      (some (if x4 < z15 then z15 else x4)).bind fun z16 =>
      (chk (x5 + 1)).bind fun z17 =>
      f_X5_layersBelow_37 n k7 a0 a1 x2 a3 z16 z17 S
set_option maxHeartbeats 4000000 in
set_option maxRecDepth 100000 in
theorem w_X5_layersBelow_37 {p : Program} {l : Launch} {e : Env} {R : Room} {s : State} {m : MethodId} {args : Array Value} {below : List Frame} {meth : Method} {c : Code} {b : Nat} {D : va_G} {dA : Nat → ClassId} {S0 : AS} {q : RS} (C : hp_C p l e R s m args below meth c b D dA S0 RX5 cX5_layersBelow 6 39 801) (hT : ∀ x ∈ c.exceptionTable.toList, False) (hnm : meth.name = "layersBelow") (hr : meth.sig.returnType = (some .int)) {k7 : Option Nat → Option Nat → Int → AS → Option RS} (hk7 : ∀ (a0 : Option Nat) (a1 : Option Nat) (x2 : Int) (S : AS), inR x2 → k7 a0 a1 x2 S = some q → ∀ ls : Array Slot, hp_L ls 6 [(0, rf b a0), (1, rf b a1), (2, iv x2)] → hp_J p l e R s m args below meth c b D dA S0 (hp_Q below b D dA S0 1 q args s) S 7 ls []) : ∀ (n : Nat), ∀ (a0 : Option Nat) (a1 : Option Nat) (x2 : Int) (a3 : Option Nat) (x4 : Int) (x5 : Int) (S : AS), inR x2 → inR x4 → inR x5 → f_X5_layersBelow_37 n k7 a0 a1 x2 a3 x4 x5 S = some q → ∀ ls : Array Slot, hp_L ls 6 [(0, rf b a0), (1, rf b a1), (2, iv x2), (3, rf b a3), (4, iv x4), (5, iv x5)] → hp_J p l e R s m args below meth c b D dA S0 (hp_Q below b D dA S0 1 q args s) S 37 ls [] := by
  have hst : l.stackTraces = false := C.2.2.2.2.2.2.2.2.2.2.1
  intro n
  induction n with
  | zero =>
    intro a0 a1 x2 a3 x4 x5 S hx2 hx4 hx5 h
    cases h
  | succ n ih =>
    intro a0 a1 x2 a3 x4 x5 S hx2 hx4 hx5 h ls hl
    unfold f_X5_layersBelow_37 at h
    refine j_iload C dX5_layersBelow_37 (hl.at 5 rfl) ?_
    refine j_aload_n C dX5_layersBelow_39 rfl (hl.at 3 rfl) ?_
    obtain ⟨v1, g_v1, h⟩ := bd h
    refine j_gI C dX5_layersBelow_40 fl_RX5_81 (Or.inl rfl) g_v1 (fun hv1 => ?_)
    refine j_icmp_ge (tgt := 79) C dX5_layersBelow_43 (by decide) hx5 hv1 (fun b1 => ?_) (fun b1 => ?_)
    · rw [if_pos b1] at h
      refine j_aload_n C dX5_layersBelow_79 rfl (hl.at 0 rfl) ?_
      obtain ⟨o2, g_o2, h⟩ := bd h
      refine j_gR C dX5_layersBelow_80 fl_RX5_33 rfl g_o2 ?_
      refine j_aload_n C dX5_layersBelow_83 rfl (hl.at 0 rfl) ?_
      obtain ⟨o3, g_o3, h⟩ := bd h
      refine j_gR C dX5_layersBelow_84 fl_RX5_22 rfl g_o3 ?_
      obtain ⟨o4, g_o4, h⟩ := bd h
      refine j_gR C dX5_layersBelow_87 fl_RX5_242 rfl g_o4 ?_
      refine j_iload_n C dX5_layersBelow_90 rfl (hl.at 2 rfl) ?_
      obtain ⟨o5, g_o5, h⟩ := bd h
      refine j_aald C dX5_layersBelow_91 (by decide) hx2 g_o5 ?_
      obtain ⟨v6, g_v6, h⟩ := bd h
      refine j_gI C dX5_layersBelow_92 fl_RX5_53 (Or.inl rfl) g_v6 (fun hv6 => ?_)
      refine j_iload C dX5_layersBelow_95 (hl.at 4 rfl) ?_
      obtain ⟨S7, g_S7, h⟩ := bd h
      refine j_iast C dX5_layersBelow_97 hv6 hx4 g_S7 ?_
      obtain ⟨z8, g_z8, h⟩ := bd h
      refine k_iinc (k9 := 2) (lv' := [(2, iv z8), (0, rf b a0), (1, rf b a1), (3, rf b a3), (4, iv x4), (5, iv x5)]) C dX5_layersBelow_98 hl rfl g_z8 (by decide) rfl (fun hz8 ls hl => ?_)
      refine j_goto (tgt := 7) C dX5_layersBelow_101 (by decide) ?_
      exact hk7 _ _ _ _ hz8 h ls (hl.sub [1, 2, 0] rfl)
    · rw [if_neg b1] at h
      refine j_iload C dX5_layersBelow_46 (hl.at 4 rfl) ?_
      refine j_iconst C dX5_layersBelow_48 ?_
      refine j_aload_n C dX5_layersBelow_49 rfl (hl.at 0 rfl) ?_
      obtain ⟨o9, g_o9, h⟩ := bd h
      refine j_gR C dX5_layersBelow_50 fl_RX5_33 rfl g_o9 ?_
      refine j_aload_n C dX5_layersBelow_53 rfl (hl.at 3 rfl) ?_
      obtain ⟨o10, g_o10, h⟩ := bd h
      refine j_gR C dX5_layersBelow_54 fl_RX5_209 rfl g_o10 ?_
      refine j_iload C dX5_layersBelow_57 (hl.at 5 rfl) ?_
      obtain ⟨o11, g_o11, h⟩ := bd h
      refine j_aald C dX5_layersBelow_59 (by decide) hx5 g_o11 ?_
      obtain ⟨o12, g_o12, h⟩ := bd h
      refine j_gR C dX5_layersBelow_60 fl_RX5_205 rfl g_o12 ?_
      obtain ⟨v13, g_v13, h⟩ := bd h
      refine j_gI C dX5_layersBelow_63 fl_RX5_53 (Or.inl rfl) g_v13 (fun hv13 => ?_)
      obtain ⟨v14, g_v14, h⟩ := bd h
      refine j_iald C dX5_layersBelow_66 hv13 g_v14 (fun hv14 => ?_)
      obtain ⟨z15, g_z15, h⟩ := bd h
      refine j_iadd C dX5_layersBelow_67 g_z15 (fun hz15 => ?_)
      rw [Option.bind_some] at h
      have hz16 : inR (if x4 < z15 then z15 else x4) := by split <;> first | assumption | decide
      refine j_max C dX5_layersBelow_68 hx4 hz15 mt_RX5_245 mt_max_s mt_i mt_max_c hl.1.1 (by decide) (by decide) ?_
      generalize (if x4 < z15 then z15 else x4) = z16 at h hz16 ⊢
      refine k_istore (lv' := [(4, iv z16), (0, rf b a0), (1, rf b a1), (2, iv x2), (3, rf b a3), (5, iv x5)]) C dX5_layersBelow_71 hl (by decide) rfl (fun ls hl => ?_)
      obtain ⟨z17, g_z17, h⟩ := bd h
      refine k_iinc (k9 := 5) (lv' := [(5, iv z17), (4, iv z16), (0, rf b a0), (1, rf b a1), (2, iv x2), (3, rf b a3)]) C dX5_layersBelow_73 hl rfl g_z17 (by decide) rfl (fun hz17 ls hl => ?_)
      refine j_goto (tgt := 37) C dX5_layersBelow_76 (by decide) ?_
      exact ih _ _ _ _ _ _ _ hx2 hz16 hz17 h ls (hl.sub [2, 3, 4, 5, 1, 0] rfl)
noncomputable def f_X5_layersBelow_7 (n : Nat) (a0 : Option Nat) (a1 : Option Nat) (x2 : Int) (S : AS) : Option RS := match n with
  | 0 => none
  | n + 1 =>
    (gR S a0 6 2).bind fun o1 =>
    (gI S o1 3 2).bind fun v2 =>
    if v2 ≤ x2 then
      (gR S a0 6 4).bind fun o3 =>
      (gI S a1 5 0).bind fun v4 =>
      (aI S o3 8 v4).bind fun v5 =>
      rI v5 S
    else
      (gR S a0 6 2).bind fun o6 =>
      (gR S o6 3 0).bind fun o7 =>
      (aR S o7 11 x2).bind fun o8 =>
      (gR S o8 5 6).bind fun o9 =>
      f_X5_layersBelow_37 FU (f_X5_layersBelow_7 n) a0 a1 x2 o9 0 0 S
set_option maxHeartbeats 4000000 in
set_option maxRecDepth 100000 in
theorem w_X5_layersBelow_7 {p : Program} {l : Launch} {e : Env} {R : Room} {s : State} {m : MethodId} {args : Array Value} {below : List Frame} {meth : Method} {c : Code} {b : Nat} {D : va_G} {dA : Nat → ClassId} {S0 : AS} {q : RS} (C : hp_C p l e R s m args below meth c b D dA S0 RX5 cX5_layersBelow 6 39 801) (hT : ∀ x ∈ c.exceptionTable.toList, False) (hnm : meth.name = "layersBelow") (hr : meth.sig.returnType = (some .int)) : ∀ (n : Nat), ∀ (a0 : Option Nat) (a1 : Option Nat) (x2 : Int) (S : AS), inR x2 → f_X5_layersBelow_7 n a0 a1 x2 S = some q → ∀ ls : Array Slot, hp_L ls 6 [(0, rf b a0), (1, rf b a1), (2, iv x2)] → hp_J p l e R s m args below meth c b D dA S0 (hp_Q below b D dA S0 1 q args s) S 7 ls [] := by
  have hst : l.stackTraces = false := C.2.2.2.2.2.2.2.2.2.2.1
  intro n
  induction n with
  | zero =>
    intro a0 a1 x2 S hx2 h
    cases h
  | succ n ih =>
    intro a0 a1 x2 S hx2 h ls hl
    unfold f_X5_layersBelow_7 at h
    refine j_iload_n C dX5_layersBelow_7 rfl (hl.at 2 rfl) ?_
    refine j_aload_n C dX5_layersBelow_8 rfl (hl.at 0 rfl) ?_
    obtain ⟨o1, g_o1, h⟩ := bd h
    refine j_gR C dX5_layersBelow_9 fl_RX5_22 rfl g_o1 ?_
    obtain ⟨v2, g_v2, h⟩ := bd h
    refine j_gI C dX5_layersBelow_12 fl_RX5_239 (Or.inl rfl) g_v2 (fun hv2 => ?_)
    refine j_icmp_ge (tgt := 104) C dX5_layersBelow_15 (by decide) hx2 hv2 (fun b1 => ?_) (fun b1 => ?_)
    · rw [if_pos b1] at h
      refine j_aload_n C dX5_layersBelow_104 rfl (hl.at 0 rfl) ?_
      obtain ⟨o3, g_o3, h⟩ := bd h
      refine j_gR C dX5_layersBelow_105 fl_RX5_33 rfl g_o3 ?_
      refine j_aload_n C dX5_layersBelow_108 rfl (hl.at 1 rfl) ?_
      obtain ⟨v4, g_v4, h⟩ := bd h
      refine j_gI C dX5_layersBelow_109 fl_RX5_53 (Or.inl rfl) g_v4 (fun hv4 => ?_)
      obtain ⟨v5, g_v5, h⟩ := bd h
      refine j_iald C dX5_layersBelow_112 hv4 g_v5 (fun hv5 => ?_)
      exact j_iret C dX5_layersBelow_113 hr hv5 h
    · rw [if_neg b1] at h
      refine j_aload_n C dX5_layersBelow_18 rfl (hl.at 0 rfl) ?_
      obtain ⟨o6, g_o6, h⟩ := bd h
      refine j_gR C dX5_layersBelow_19 fl_RX5_22 rfl g_o6 ?_
      obtain ⟨o7, g_o7, h⟩ := bd h
      refine j_gR C dX5_layersBelow_22 fl_RX5_242 rfl g_o7 ?_
      refine j_iload_n C dX5_layersBelow_25 rfl (hl.at 2 rfl) ?_
      obtain ⟨o8, g_o8, h⟩ := bd h
      refine j_aald C dX5_layersBelow_26 (by decide) hx2 g_o8 ?_
      obtain ⟨o9, g_o9, h⟩ := bd h
      refine j_gR C dX5_layersBelow_27 fl_RX5_77 rfl g_o9 ?_
      refine k_astore_n (lv' := [(3, rf b o9), (0, rf b a0), (1, rf b a1), (2, iv x2)]) C dX5_layersBelow_30 rfl hl (by decide) rfl (fun ls hl => ?_)
      refine j_iconst C dX5_layersBelow_31 ?_
      refine k_istore (lv' := [(4, iv 0), (3, rf b o9), (0, rf b a0), (1, rf b a1), (2, iv x2)]) C dX5_layersBelow_32 hl (by decide) rfl (fun ls hl => ?_)
      refine j_iconst C dX5_layersBelow_34 ?_
      refine k_istore (lv' := [(5, iv 0), (4, iv 0), (3, rf b o9), (0, rf b a0), (1, rf b a1), (2, iv x2)]) C dX5_layersBelow_35 hl (by decide) rfl (fun ls hl => ?_)
      exact w_X5_layersBelow_37 C hT hnm hr ih FU _ _ _ _ _ _ _ hx2 (by decide) (by decide) h ls (hl.sub [3, 4, 5, 2, 1, 0] rfl)
noncomputable def f_X5_layersBelow (a0 : Option Nat) (a1 : Option Nat) (S : AS) : Option RS :=
  gd (isK S a0 6) <|
  cV (f_X5_orderFrom a0 a1 S) fun S1 =>
  f_X5_layersBelow_7 FU a0 a1 0 S1
set_option maxHeartbeats 4000000 in
set_option maxRecDepth 100000 in
theorem m_X5_layersBelow {l : Launch} {b : Nat} {D : va_G} {dA : Nat → ClassId} (hst : l.stackTraces = false) {a0 : Option Nat} {a1 : Option Nat} {S : AS} {q : RS} (h : f_X5_layersBelow a0 a1 S = some q) : hp_M l b D dA yX5_layersBelow cX5_layersBelow 6 (some .int) 39 801 [rf b a0, rf b a1] S 1 q := by
  have hcat : ∀ v ∈ ([rf b a0, rf b a1] : List Value), v.category = 1 := (by intro v hv; simp only [List.mem_cons, List.not_mem_nil, or_false] at hv; rcases hv with rfl | rfl <;> first | exact cat_iv _ | exact cat_rf _ _)
  refine hp_ofJ (own := RX5) hst (by decide +kernel) rfl hcat (Nat.le_of_ble_eq_true rfl) ?_
  intro p e R s m args below meth c C hT hnm hr ls hl9
  have hl : hp_L ls 6 [(0, rf b a0), (1, rf b a1)] := hp_L.of hl9 hcat
  unfold f_X5_layersBelow at h
  refine j_aload_n C dX5_layersBelow_0 rfl (hl.at 0 rfl) ?_
  refine j_aload_n C dX5_layersBelow_1 rfl (hl.at 1 rfl) ?_
  obtain ⟨c3, h⟩ := gd_some h
  rcases cV_some h with ⟨S1, y2, hc, h⟩ | ⟨hc, hne⟩
  · refine j_callV C (run_W (As := [rf b a1]) (rest := []) C (m_X5_orderFrom hst hc) cv_RX5_236 (by decide) rfl c3 rfl hl (by decide) (by decide) (by decide) dX5_layersBelow_2) ?_
    refine j_iconst C dX5_layersBelow_5 ?_
    refine k_istore_n (lv' := [(2, iv 0), (0, rf b a0), (1, rf b a1)]) C dX5_layersBelow_6 rfl hl (by decide) rfl (fun ls hl => ?_)
    exact w_X5_layersBelow_7 C hT hnm hr FU _ _ _ _ (by decide) h ls (hl.sub [1, 2, 0] rfl)
  · exact j_thrown C hT (run_W (As := [rf b a1]) (rest := []) C (m_X5_orderFrom hst hc) cv_RX5_236 (by decide) rfl c3 rfl hl (by decide) (by decide) (by decide) dX5_layersBelow_2) hne
noncomputable def f_X5_leavesIn_48 (n : Nat) (k7 : Option Nat → Option Nat → Int → AS → Option RS) (a0 : Option Nat) (a1 : Option Nat) (x2 : Int) (a3 : Option Nat) (x4 : Int) (x5 : Int) (S : AS) : Option RS := match n with
  | 0 => none
  | n + 1 =>
    (gI S a3 1 2).bind fun v1 =>
    if v1 ≤ x5 then
      (gR S a0 6 4).bind fun o2 =>
      (gR S a0 6 2).bind fun o3 =>
      (gR S o3 3 0).bind fun o4 =>
      (aR S o4 11 x2).bind fun o5 =>
      (gI S o5 5 0).bind fun v6 =>
      (some (if 1000000 < x4 then 1000000 else x4)).bind fun z7 =>
      (sI S o2 8 v6 z7).bind fun S8 =>
      (chk (x2 + 1)).bind fun z9 =>
      k7 a0 a1 z9 S8
    else
      (gR S a0 6 4).bind fun o10 =>
      (gR S a3 1 1).bind fun o11 =>
      (aR S o11 10 x5).bind fun o12 =>
      (gR S o12 4 0).bind fun o13 =>
      (gI S o13 5 0).bind fun v14 =>
      (aI S o10 8 v14).bind fun v15 =>
      (chk (x4 + v15)).bind fun z16 =>
      (chk (x5 + 1)).bind fun z17 =>
      f_X5_leavesIn_48 n k7 a0 a1 x2 a3 z16 z17 S
set_option maxHeartbeats 4000000 in
set_option maxRecDepth 100000 in
theorem w_X5_leavesIn_48 {p : Program} {l : Launch} {e : Env} {R : Room} {s : State} {m : MethodId} {args : Array Value} {below : List Frame} {meth : Method} {c : Code} {b : Nat} {D : va_G} {dA : Nat → ClassId} {S0 : AS} {q : RS} (C : hp_C p l e R s m args below meth c b D dA S0 RX5 cX5_leavesIn 6 39 801) (hT : ∀ x ∈ c.exceptionTable.toList, False) (hnm : meth.name = "leavesIn") (hr : meth.sig.returnType = (some .int)) {k7 : Option Nat → Option Nat → Int → AS → Option RS} (hk7 : ∀ (a0 : Option Nat) (a1 : Option Nat) (x2 : Int) (S : AS), inR x2 → k7 a0 a1 x2 S = some q → ∀ ls : Array Slot, hp_L ls 6 [(0, rf b a0), (1, rf b a1), (2, iv x2)] → hp_J p l e R s m args below meth c b D dA S0 (hp_Q below b D dA S0 1 q args s) S 7 ls []) : ∀ (n : Nat), ∀ (a0 : Option Nat) (a1 : Option Nat) (x2 : Int) (a3 : Option Nat) (x4 : Int) (x5 : Int) (S : AS), inR x2 → inR x4 → inR x5 → f_X5_leavesIn_48 n k7 a0 a1 x2 a3 x4 x5 S = some q → ∀ ls : Array Slot, hp_L ls 6 [(0, rf b a0), (1, rf b a1), (2, iv x2), (3, rf b a3), (4, iv x4), (5, iv x5)] → hp_J p l e R s m args below meth c b D dA S0 (hp_Q below b D dA S0 1 q args s) S 48 ls [] := by
  have hst : l.stackTraces = false := C.2.2.2.2.2.2.2.2.2.2.1
  intro n
  induction n with
  | zero =>
    intro a0 a1 x2 a3 x4 x5 S hx2 hx4 hx5 h
    cases h
  | succ n ih =>
    intro a0 a1 x2 a3 x4 x5 S hx2 hx4 hx5 h ls hl
    unfold f_X5_leavesIn_48 at h
    refine j_iload C dX5_leavesIn_48 (hl.at 5 rfl) ?_
    refine j_aload_n C dX5_leavesIn_50 rfl (hl.at 3 rfl) ?_
    obtain ⟨v1, g_v1, h⟩ := bd h
    refine j_gI C dX5_leavesIn_51 fl_RX5_81 (Or.inl rfl) g_v1 (fun hv1 => ?_)
    refine j_icmp_ge (tgt := 86) C dX5_leavesIn_54 (by decide) hx5 hv1 (fun b1 => ?_) (fun b1 => ?_)
    · rw [if_pos b1] at h
      refine j_aload_n C dX5_leavesIn_86 rfl (hl.at 0 rfl) ?_
      obtain ⟨o2, g_o2, h⟩ := bd h
      refine j_gR C dX5_leavesIn_87 fl_RX5_33 rfl g_o2 ?_
      refine j_aload_n C dX5_leavesIn_90 rfl (hl.at 0 rfl) ?_
      obtain ⟨o3, g_o3, h⟩ := bd h
      refine j_gR C dX5_leavesIn_91 fl_RX5_22 rfl g_o3 ?_
      obtain ⟨o4, g_o4, h⟩ := bd h
      refine j_gR C dX5_leavesIn_94 fl_RX5_242 rfl g_o4 ?_
      refine j_iload_n C dX5_leavesIn_97 rfl (hl.at 2 rfl) ?_
      obtain ⟨o5, g_o5, h⟩ := bd h
      refine j_aald C dX5_leavesIn_98 (by decide) hx2 g_o5 ?_
      obtain ⟨v6, g_v6, h⟩ := bd h
      refine j_gI C dX5_leavesIn_99 fl_RX5_53 (Or.inl rfl) g_v6 (fun hv6 => ?_)
      refine j_iload C dX5_leavesIn_102 (hl.at 4 rfl) ?_
      refine j_ldc (x := 1000000) C dX5_leavesIn_104 kn_RX5_255 ?_
      rw [Option.bind_some] at h
      have hz7 : inR (if 1000000 < x4 then 1000000 else x4) := by split <;> first | assumption | decide
      refine j_min C dX5_leavesIn_106 hx4 (by decide) mt_RX5_256 mt_min_s mt_i mt_min_c hl.1.1 (by decide) (by first | decide | (simp [cat_iv, cat_rf]; omega) | simp [cat_iv, cat_rf]) ?_
      generalize (if 1000000 < x4 then 1000000 else x4) = z7 at h hz7 ⊢
      obtain ⟨S8, g_S8, h⟩ := bd h
      refine j_iast C dX5_leavesIn_109 hv6 hz7 g_S8 ?_
      obtain ⟨z9, g_z9, h⟩ := bd h
      refine k_iinc (k9 := 2) (lv' := [(2, iv z9), (0, rf b a0), (1, rf b a1), (3, rf b a3), (4, iv x4), (5, iv x5)]) C dX5_leavesIn_110 hl rfl g_z9 (by decide) rfl (fun hz9 ls hl => ?_)
      refine j_goto (tgt := 7) C dX5_leavesIn_113 (by decide) ?_
      exact hk7 _ _ _ _ hz9 h ls (hl.sub [1, 2, 0] rfl)
    · rw [if_neg b1] at h
      refine j_iload C dX5_leavesIn_57 (hl.at 4 rfl) ?_
      refine j_aload_n C dX5_leavesIn_59 rfl (hl.at 0 rfl) ?_
      obtain ⟨o10, g_o10, h⟩ := bd h
      refine j_gR C dX5_leavesIn_60 fl_RX5_33 rfl g_o10 ?_
      refine j_aload_n C dX5_leavesIn_63 rfl (hl.at 3 rfl) ?_
      obtain ⟨o11, g_o11, h⟩ := bd h
      refine j_gR C dX5_leavesIn_64 fl_RX5_209 rfl g_o11 ?_
      refine j_iload C dX5_leavesIn_67 (hl.at 5 rfl) ?_
      obtain ⟨o12, g_o12, h⟩ := bd h
      refine j_aald C dX5_leavesIn_69 (by decide) hx5 g_o12 ?_
      obtain ⟨o13, g_o13, h⟩ := bd h
      refine j_gR C dX5_leavesIn_70 fl_RX5_205 rfl g_o13 ?_
      obtain ⟨v14, g_v14, h⟩ := bd h
      refine j_gI C dX5_leavesIn_73 fl_RX5_53 (Or.inl rfl) g_v14 (fun hv14 => ?_)
      obtain ⟨v15, g_v15, h⟩ := bd h
      refine j_iald C dX5_leavesIn_76 hv14 g_v15 (fun hv15 => ?_)
      obtain ⟨z16, g_z16, h⟩ := bd h
      refine j_iadd C dX5_leavesIn_77 g_z16 (fun hz16 => ?_)
      refine k_istore (lv' := [(4, iv z16), (0, rf b a0), (1, rf b a1), (2, iv x2), (3, rf b a3), (5, iv x5)]) C dX5_leavesIn_78 hl (by decide) rfl (fun ls hl => ?_)
      obtain ⟨z17, g_z17, h⟩ := bd h
      refine k_iinc (k9 := 5) (lv' := [(5, iv z17), (4, iv z16), (0, rf b a0), (1, rf b a1), (2, iv x2), (3, rf b a3)]) C dX5_leavesIn_80 hl rfl g_z17 (by decide) rfl (fun hz17 ls hl => ?_)
      refine j_goto (tgt := 48) C dX5_leavesIn_83 (by decide) ?_
      exact ih _ _ _ _ _ _ _ hx2 hz16 hz17 h ls (hl.sub [2, 3, 4, 5, 1, 0] rfl)
noncomputable def f_X5_leavesIn_43 (k7 : Option Nat → Option Nat → Int → AS → Option RS) (a0 : Option Nat) (a1 : Option Nat) (x2 : Int) (a3 : Option Nat) (t0 : Int) (S : AS) : Option RS :=
  f_X5_leavesIn_48 FU k7 a0 a1 x2 a3 t0 0 S
set_option maxHeartbeats 4000000 in
set_option maxRecDepth 100000 in
theorem w_X5_leavesIn_43 {p : Program} {l : Launch} {e : Env} {R : Room} {s : State} {m : MethodId} {args : Array Value} {below : List Frame} {meth : Method} {c : Code} {b : Nat} {D : va_G} {dA : Nat → ClassId} {S0 : AS} {q : RS} (C : hp_C p l e R s m args below meth c b D dA S0 RX5 cX5_leavesIn 6 39 801) (hT : ∀ x ∈ c.exceptionTable.toList, False) (hnm : meth.name = "leavesIn") (hr : meth.sig.returnType = (some .int)) {k7 : Option Nat → Option Nat → Int → AS → Option RS} (hk7 : ∀ (a0 : Option Nat) (a1 : Option Nat) (x2 : Int) (S : AS), inR x2 → k7 a0 a1 x2 S = some q → ∀ ls : Array Slot, hp_L ls 6 [(0, rf b a0), (1, rf b a1), (2, iv x2)] → hp_J p l e R s m args below meth c b D dA S0 (hp_Q below b D dA S0 1 q args s) S 7 ls []) : ∀ (a0 : Option Nat) (a1 : Option Nat) (x2 : Int) (a3 : Option Nat) (t0 : Int) (S : AS), inR x2 → inR t0 → f_X5_leavesIn_43 k7 a0 a1 x2 a3 t0 S = some q → ∀ ls : Array Slot, hp_L ls 6 [(0, rf b a0), (1, rf b a1), (2, iv x2), (3, rf b a3)] → hp_J p l e R s m args below meth c b D dA S0 (hp_Q below b D dA S0 1 q args s) S 43 ls [iv t0] := by
  have hst : l.stackTraces = false := C.2.2.2.2.2.2.2.2.2.2.1
  intro a0 a1 x2 a3 t0 S hx2 ht0 h ls hl
  unfold f_X5_leavesIn_43 at h
  refine k_istore (lv' := [(4, iv t0), (0, rf b a0), (1, rf b a1), (2, iv x2), (3, rf b a3)]) C dX5_leavesIn_43 hl (by decide) rfl (fun ls hl => ?_)
  refine j_iconst C dX5_leavesIn_45 ?_
  refine k_istore (lv' := [(5, iv 0), (4, iv t0), (0, rf b a0), (1, rf b a1), (2, iv x2), (3, rf b a3)]) C dX5_leavesIn_46 hl (by decide) rfl (fun ls hl => ?_)
  exact w_X5_leavesIn_48 C hT hnm hr hk7 FU _ _ _ _ _ _ _ hx2 ht0 (by decide) h ls (hl.sub [2, 3, 4, 5, 1, 0] rfl)
noncomputable def f_X5_leavesIn_7 (n : Nat) (a0 : Option Nat) (a1 : Option Nat) (x2 : Int) (S : AS) : Option RS := match n with
  | 0 => none
  | n + 1 =>
    (gR S a0 6 2).bind fun o1 =>
    (gI S o1 3 2).bind fun v2 =>
    if v2 ≤ x2 then
      (gR S a0 6 4).bind fun o3 =>
      (gI S a1 5 0).bind fun v4 =>
      (aI S o3 8 v4).bind fun v5 =>
      rI v5 S
    else
      (gR S a0 6 2).bind fun o6 =>
      (gR S o6 3 0).bind fun o7 =>
      (aR S o7 11 x2).bind fun o8 =>
      (gR S o8 5 6).bind fun o9 =>
      gd (isK S o9 1) <|
      cI (f_X0_isLeaf o9 S) fun v11 S10 =>
      if v11 = 0 then
        f_X5_leavesIn_43 (f_X5_leavesIn_7 n) a0 a1 x2 o9 0 S10
      else
        f_X5_leavesIn_43 (f_X5_leavesIn_7 n) a0 a1 x2 o9 1 S10
set_option maxHeartbeats 4000000 in
set_option maxRecDepth 100000 in
theorem w_X5_leavesIn_7 {p : Program} {l : Launch} {e : Env} {R : Room} {s : State} {m : MethodId} {args : Array Value} {below : List Frame} {meth : Method} {c : Code} {b : Nat} {D : va_G} {dA : Nat → ClassId} {S0 : AS} {q : RS} (C : hp_C p l e R s m args below meth c b D dA S0 RX5 cX5_leavesIn 6 39 801) (hT : ∀ x ∈ c.exceptionTable.toList, False) (hnm : meth.name = "leavesIn") (hr : meth.sig.returnType = (some .int)) : ∀ (n : Nat), ∀ (a0 : Option Nat) (a1 : Option Nat) (x2 : Int) (S : AS), inR x2 → f_X5_leavesIn_7 n a0 a1 x2 S = some q → ∀ ls : Array Slot, hp_L ls 6 [(0, rf b a0), (1, rf b a1), (2, iv x2)] → hp_J p l e R s m args below meth c b D dA S0 (hp_Q below b D dA S0 1 q args s) S 7 ls [] := by
  have hst : l.stackTraces = false := C.2.2.2.2.2.2.2.2.2.2.1
  intro n
  induction n with
  | zero =>
    intro a0 a1 x2 S hx2 h
    cases h
  | succ n ih =>
    intro a0 a1 x2 S hx2 h ls hl
    unfold f_X5_leavesIn_7 at h
    refine j_iload_n C dX5_leavesIn_7 rfl (hl.at 2 rfl) ?_
    refine j_aload_n C dX5_leavesIn_8 rfl (hl.at 0 rfl) ?_
    obtain ⟨o1, g_o1, h⟩ := bd h
    refine j_gR C dX5_leavesIn_9 fl_RX5_22 rfl g_o1 ?_
    obtain ⟨v2, g_v2, h⟩ := bd h
    refine j_gI C dX5_leavesIn_12 fl_RX5_239 (Or.inl rfl) g_v2 (fun hv2 => ?_)
    refine j_icmp_ge (tgt := 116) C dX5_leavesIn_15 (by decide) hx2 hv2 (fun b1 => ?_) (fun b1 => ?_)
    · rw [if_pos b1] at h
      refine j_aload_n C dX5_leavesIn_116 rfl (hl.at 0 rfl) ?_
      obtain ⟨o3, g_o3, h⟩ := bd h
      refine j_gR C dX5_leavesIn_117 fl_RX5_33 rfl g_o3 ?_
      refine j_aload_n C dX5_leavesIn_120 rfl (hl.at 1 rfl) ?_
      obtain ⟨v4, g_v4, h⟩ := bd h
      refine j_gI C dX5_leavesIn_121 fl_RX5_53 (Or.inl rfl) g_v4 (fun hv4 => ?_)
      obtain ⟨v5, g_v5, h⟩ := bd h
      refine j_iald C dX5_leavesIn_124 hv4 g_v5 (fun hv5 => ?_)
      exact j_iret C dX5_leavesIn_125 hr hv5 h
    · rw [if_neg b1] at h
      refine j_aload_n C dX5_leavesIn_18 rfl (hl.at 0 rfl) ?_
      obtain ⟨o6, g_o6, h⟩ := bd h
      refine j_gR C dX5_leavesIn_19 fl_RX5_22 rfl g_o6 ?_
      obtain ⟨o7, g_o7, h⟩ := bd h
      refine j_gR C dX5_leavesIn_22 fl_RX5_242 rfl g_o7 ?_
      refine j_iload_n C dX5_leavesIn_25 rfl (hl.at 2 rfl) ?_
      obtain ⟨o8, g_o8, h⟩ := bd h
      refine j_aald C dX5_leavesIn_26 (by decide) hx2 g_o8 ?_
      obtain ⟨o9, g_o9, h⟩ := bd h
      refine j_gR C dX5_leavesIn_27 fl_RX5_77 rfl g_o9 ?_
      refine k_astore_n (lv' := [(3, rf b o9), (0, rf b a0), (1, rf b a1), (2, iv x2)]) C dX5_leavesIn_30 rfl hl (by decide) rfl (fun ls hl => ?_)
      refine j_aload_n C dX5_leavesIn_31 rfl (hl.at 0 rfl) ?_
      obtain ⟨c12, h⟩ := gd_some h
      rcases cI_some h with ⟨S10, v11, wv11, hc, h⟩ | ⟨hc, hne⟩
      · refine j_callI C (run_W (As := []) (rest := []) C (m_X0_isLeaf hst hc) cv_RX5_251 (by decide) rfl c12 rfl hl (by decide) (by decide) (by decide) dX5_leavesIn_32) (fun hv11 => ?_)
        refine j_if_eq (tgt := 42) C dX5_leavesIn_35 (by decide) hv11 (fun b1 => ?_) (fun b1 => ?_)
        · rw [if_pos b1] at h
          refine j_iconst C dX5_leavesIn_42 ?_
          exact w_X5_leavesIn_43 C hT hnm hr ih _ _ _ _ _ _ hx2 (by decide) h ls (hl.sub [1, 2, 3, 0] rfl)
        · rw [if_neg b1] at h
          refine j_iconst C dX5_leavesIn_38 ?_
          refine j_goto (tgt := 43) C dX5_leavesIn_39 (by decide) ?_
          exact w_X5_leavesIn_43 C hT hnm hr ih _ _ _ _ _ _ hx2 (by decide) h ls (hl.sub [1, 2, 3, 0] rfl)
      · exact j_thrown C hT (run_W (As := []) (rest := []) C (m_X0_isLeaf hst hc) cv_RX5_251 (by decide) rfl c12 rfl hl (by decide) (by decide) (by decide) dX5_leavesIn_32) hne
noncomputable def f_X5_leavesIn (a0 : Option Nat) (a1 : Option Nat) (S : AS) : Option RS :=
  gd (isK S a0 6) <|
  cV (f_X5_orderFrom a0 a1 S) fun S1 =>
  f_X5_leavesIn_7 FU a0 a1 0 S1
set_option maxHeartbeats 4000000 in
set_option maxRecDepth 100000 in
theorem m_X5_leavesIn {l : Launch} {b : Nat} {D : va_G} {dA : Nat → ClassId} (hst : l.stackTraces = false) {a0 : Option Nat} {a1 : Option Nat} {S : AS} {q : RS} (h : f_X5_leavesIn a0 a1 S = some q) : hp_M l b D dA yX5_leavesIn cX5_leavesIn 6 (some .int) 39 801 [rf b a0, rf b a1] S 1 q := by
  have hcat : ∀ v ∈ ([rf b a0, rf b a1] : List Value), v.category = 1 := (by intro v hv; simp only [List.mem_cons, List.not_mem_nil, or_false] at hv; rcases hv with rfl | rfl <;> first | exact cat_iv _ | exact cat_rf _ _)
  refine hp_ofJ (own := RX5) hst (by decide +kernel) rfl hcat (Nat.le_of_ble_eq_true rfl) ?_
  intro p e R s m args below meth c C hT hnm hr ls hl9
  have hl : hp_L ls 6 [(0, rf b a0), (1, rf b a1)] := hp_L.of hl9 hcat
  unfold f_X5_leavesIn at h
  refine j_aload_n C dX5_leavesIn_0 rfl (hl.at 0 rfl) ?_
  refine j_aload_n C dX5_leavesIn_1 rfl (hl.at 1 rfl) ?_
  obtain ⟨c3, h⟩ := gd_some h
  rcases cV_some h with ⟨S1, y2, hc, h⟩ | ⟨hc, hne⟩
  · refine j_callV C (run_W (As := [rf b a1]) (rest := []) C (m_X5_orderFrom hst hc) cv_RX5_236 (by decide) rfl c3 rfl hl (by decide) (by decide) (by decide) dX5_leavesIn_2) ?_
    refine j_iconst C dX5_leavesIn_5 ?_
    refine k_istore_n (lv' := [(2, iv 0), (0, rf b a0), (1, rf b a1)]) C dX5_leavesIn_6 rfl hl (by decide) rfl (fun ls hl => ?_)
    exact w_X5_leavesIn_7 C hT hnm hr FU _ _ _ _ (by decide) h ls (hl.sub [1, 2, 0] rfl)
  · exact j_thrown C hT (run_W (As := [rf b a1]) (rest := []) C (m_X5_orderFrom hst hc) cv_RX5_236 (by decide) rfl c3 rfl hl (by decide) (by decide) (by decide) dX5_leavesIn_2) hne
noncomputable def f_X5_netsOfOccurrences_88 (k7 : Option Nat → Option Nat → Int → AS → Option RS) (k40 : Option Nat → Option Nat → Int → Option Nat → Int → Int → AS → Option RS) (a0 : Option Nat) (a1 : Option Nat) (x2 : Int) (a3 : Option Nat) (x5 : Int) (t0 : Int) (t1 : Int) (S : AS) : Option RS :=
  (chk (t1 + t0)).bind fun z1 =>
  (chk (x5 + 1)).bind fun z2 =>
  k40 a0 a1 x2 a3 z1 z2 S
set_option maxHeartbeats 4000000 in
set_option maxRecDepth 100000 in
theorem w_X5_netsOfOccurrences_88 {p : Program} {l : Launch} {e : Env} {R : Room} {s : State} {m : MethodId} {args : Array Value} {below : List Frame} {meth : Method} {c : Code} {b : Nat} {D : va_G} {dA : Nat → ClassId} {S0 : AS} {q : RS} (C : hp_C p l e R s m args below meth c b D dA S0 RX5 cX5_netsOfOccurrences 7 39 801) (hT : ∀ x ∈ c.exceptionTable.toList, False) (hnm : meth.name = "netsOfOccurrences") (hr : meth.sig.returnType = (some .int)) {k7 : Option Nat → Option Nat → Int → AS → Option RS} (hk7 : ∀ (a0 : Option Nat) (a1 : Option Nat) (x2 : Int) (S : AS), inR x2 → k7 a0 a1 x2 S = some q → ∀ ls : Array Slot, hp_L ls 7 [(0, rf b a0), (1, rf b a1), (2, iv x2)] → hp_J p l e R s m args below meth c b D dA S0 (hp_Q below b D dA S0 1 q args s) S 7 ls []) {k40 : Option Nat → Option Nat → Int → Option Nat → Int → Int → AS → Option RS} (hk40 : ∀ (a0 : Option Nat) (a1 : Option Nat) (x2 : Int) (a3 : Option Nat) (x4 : Int) (x5 : Int) (S : AS), inR x2 → inR x4 → inR x5 → k40 a0 a1 x2 a3 x4 x5 S = some q → ∀ ls : Array Slot, hp_L ls 7 [(0, rf b a0), (1, rf b a1), (2, iv x2), (3, rf b a3), (4, iv x4), (5, iv x5)] → hp_J p l e R s m args below meth c b D dA S0 (hp_Q below b D dA S0 1 q args s) S 40 ls []) : ∀ (a0 : Option Nat) (a1 : Option Nat) (x2 : Int) (a3 : Option Nat) (x5 : Int) (t0 : Int) (t1 : Int) (S : AS), inR x2 → inR x5 → inR t0 → inR t1 → f_X5_netsOfOccurrences_88 k7 k40 a0 a1 x2 a3 x5 t0 t1 S = some q → ∀ ls : Array Slot, hp_L ls 7 [(0, rf b a0), (1, rf b a1), (2, iv x2), (3, rf b a3), (5, iv x5)] → hp_J p l e R s m args below meth c b D dA S0 (hp_Q below b D dA S0 1 q args s) S 88 ls [iv t0, iv t1] := by
  have hst : l.stackTraces = false := C.2.2.2.2.2.2.2.2.2.2.1
  intro a0 a1 x2 a3 x5 t0 t1 S hx2 hx5 ht0 ht1 h ls hl
  unfold f_X5_netsOfOccurrences_88 at h
  obtain ⟨z1, g_z1, h⟩ := bd h
  refine j_iadd C dX5_netsOfOccurrences_88 g_z1 (fun hz1 => ?_)
  refine k_istore (lv' := [(4, iv z1), (0, rf b a0), (1, rf b a1), (2, iv x2), (3, rf b a3), (5, iv x5)]) C dX5_netsOfOccurrences_89 hl (by decide) rfl (fun ls hl => ?_)
  obtain ⟨z2, g_z2, h⟩ := bd h
  refine k_iinc (k9 := 5) (lv' := [(5, iv z2), (4, iv z1), (0, rf b a0), (1, rf b a1), (2, iv x2), (3, rf b a3)]) C dX5_netsOfOccurrences_91 hl rfl g_z2 (by decide) rfl (fun hz2 ls hl => ?_)
  refine j_goto (tgt := 40) C dX5_netsOfOccurrences_94 (by decide) ?_
  exact hk40 _ _ _ _ _ _ _ hx2 hz1 hz2 h ls (hl.sub [2, 3, 4, 5, 1, 0] rfl)
noncomputable def f_X5_netsOfOccurrences_40 (n : Nat) (k7 : Option Nat → Option Nat → Int → AS → Option RS) (a0 : Option Nat) (a1 : Option Nat) (x2 : Int) (a3 : Option Nat) (x4 : Int) (x5 : Int) (S : AS) : Option RS := match n with
  | 0 => none
  | n + 1 =>
    (gI S a3 1 2).bind fun v1 =>
    if v1 ≤ x5 then
      (gR S a0 6 4).bind fun o2 =>
      (gR S a0 6 2).bind fun o3 =>
      (gR S o3 3 0).bind fun o4 =>
      (aR S o4 11 x2).bind fun o5 =>
      (gI S o5 5 0).bind fun v6 =>
      (some (if 3001 < x4 then 3001 else x4)).bind fun z7 =>
      (sI S o2 8 v6 z7).bind fun S8 =>
      (chk (x2 + 1)).bind fun z9 =>
      k7 a0 a1 z9 S8
    else
      (gR S a3 1 1).bind fun o10 =>
      (aR S o10 10 x5).bind fun o11 =>
      (gR S o11 4 0).bind fun o12 =>
      (gR S o12 5 6).bind fun o13 =>
      gd (isK S o13 1) <|
      cI (f_X0_isLeaf o13 S) fun v15 S14 =>
      if v15 = 0 then
        (gR S14 a0 6 4).bind fun o17 =>
        (gI S14 o12 5 0).bind fun v18 =>
        (aI S14 o17 8 v18).bind fun v19 =>
        f_X5_netsOfOccurrences_88 k7 (f_X5_netsOfOccurrences_40 n k7) a0 a1 x2 a3 x5 v19 x4 S14
      else
        f_X5_netsOfOccurrences_88 k7 (f_X5_netsOfOccurrences_40 n k7) a0 a1 x2 a3 x5 0 x4 S14
set_option maxHeartbeats 4000000 in
set_option maxRecDepth 100000 in
theorem w_X5_netsOfOccurrences_40 {p : Program} {l : Launch} {e : Env} {R : Room} {s : State} {m : MethodId} {args : Array Value} {below : List Frame} {meth : Method} {c : Code} {b : Nat} {D : va_G} {dA : Nat → ClassId} {S0 : AS} {q : RS} (C : hp_C p l e R s m args below meth c b D dA S0 RX5 cX5_netsOfOccurrences 7 39 801) (hT : ∀ x ∈ c.exceptionTable.toList, False) (hnm : meth.name = "netsOfOccurrences") (hr : meth.sig.returnType = (some .int)) {k7 : Option Nat → Option Nat → Int → AS → Option RS} (hk7 : ∀ (a0 : Option Nat) (a1 : Option Nat) (x2 : Int) (S : AS), inR x2 → k7 a0 a1 x2 S = some q → ∀ ls : Array Slot, hp_L ls 7 [(0, rf b a0), (1, rf b a1), (2, iv x2)] → hp_J p l e R s m args below meth c b D dA S0 (hp_Q below b D dA S0 1 q args s) S 7 ls []) : ∀ (n : Nat), ∀ (a0 : Option Nat) (a1 : Option Nat) (x2 : Int) (a3 : Option Nat) (x4 : Int) (x5 : Int) (S : AS), inR x2 → inR x4 → inR x5 → f_X5_netsOfOccurrences_40 n k7 a0 a1 x2 a3 x4 x5 S = some q → ∀ ls : Array Slot, hp_L ls 7 [(0, rf b a0), (1, rf b a1), (2, iv x2), (3, rf b a3), (4, iv x4), (5, iv x5)] → hp_J p l e R s m args below meth c b D dA S0 (hp_Q below b D dA S0 1 q args s) S 40 ls [] := by
  have hst : l.stackTraces = false := C.2.2.2.2.2.2.2.2.2.2.1
  intro n
  induction n with
  | zero =>
    intro a0 a1 x2 a3 x4 x5 S hx2 hx4 hx5 h
    cases h
  | succ n ih =>
    intro a0 a1 x2 a3 x4 x5 S hx2 hx4 hx5 h ls hl
    unfold f_X5_netsOfOccurrences_40 at h
    refine j_iload C dX5_netsOfOccurrences_40 (hl.at 5 rfl) ?_
    refine j_aload_n C dX5_netsOfOccurrences_42 rfl (hl.at 3 rfl) ?_
    obtain ⟨v1, g_v1, h⟩ := bd h
    refine j_gI C dX5_netsOfOccurrences_43 fl_RX5_81 (Or.inl rfl) g_v1 (fun hv1 => ?_)
    refine j_icmp_ge (tgt := 97) C dX5_netsOfOccurrences_46 (by decide) hx5 hv1 (fun b1 => ?_) (fun b1 => ?_)
    · rw [if_pos b1] at h
      refine j_aload_n C dX5_netsOfOccurrences_97 rfl (hl.at 0 rfl) ?_
      obtain ⟨o2, g_o2, h⟩ := bd h
      refine j_gR C dX5_netsOfOccurrences_98 fl_RX5_33 rfl g_o2 ?_
      refine j_aload_n C dX5_netsOfOccurrences_101 rfl (hl.at 0 rfl) ?_
      obtain ⟨o3, g_o3, h⟩ := bd h
      refine j_gR C dX5_netsOfOccurrences_102 fl_RX5_22 rfl g_o3 ?_
      obtain ⟨o4, g_o4, h⟩ := bd h
      refine j_gR C dX5_netsOfOccurrences_105 fl_RX5_242 rfl g_o4 ?_
      refine j_iload_n C dX5_netsOfOccurrences_108 rfl (hl.at 2 rfl) ?_
      obtain ⟨o5, g_o5, h⟩ := bd h
      refine j_aald C dX5_netsOfOccurrences_109 (by decide) hx2 g_o5 ?_
      obtain ⟨v6, g_v6, h⟩ := bd h
      refine j_gI C dX5_netsOfOccurrences_110 fl_RX5_53 (Or.inl rfl) g_v6 (fun hv6 => ?_)
      refine j_iload C dX5_netsOfOccurrences_113 (hl.at 4 rfl) ?_
      refine j_sipush (x := 3001) C dX5_netsOfOccurrences_115 (by decide) ?_
      rw [Option.bind_some] at h
      have hz7 : inR (if 3001 < x4 then 3001 else x4) := by split <;> first | assumption | decide
      refine j_min C dX5_netsOfOccurrences_118 hx4 (by decide) mt_RX5_256 mt_min_s mt_i mt_min_c hl.1.1 (by decide) (by first | decide | (simp [cat_iv, cat_rf]; omega) | simp [cat_iv, cat_rf]) ?_
      generalize (if 3001 < x4 then 3001 else x4) = z7 at h hz7 ⊢
      obtain ⟨S8, g_S8, h⟩ := bd h
      refine j_iast C dX5_netsOfOccurrences_121 hv6 hz7 g_S8 ?_
      obtain ⟨z9, g_z9, h⟩ := bd h
      refine k_iinc (k9 := 2) (lv' := [(2, iv z9), (0, rf b a0), (1, rf b a1), (3, rf b a3), (4, iv x4), (5, iv x5)]) C dX5_netsOfOccurrences_122 hl rfl g_z9 (by decide) rfl (fun hz9 ls hl => ?_)
      refine j_goto (tgt := 7) C dX5_netsOfOccurrences_125 (by decide) ?_
      exact hk7 _ _ _ _ hz9 h ls (hl.sub [1, 2, 0] rfl)
    · rw [if_neg b1] at h
      refine j_aload_n C dX5_netsOfOccurrences_49 rfl (hl.at 3 rfl) ?_
      obtain ⟨o10, g_o10, h⟩ := bd h
      refine j_gR C dX5_netsOfOccurrences_50 fl_RX5_209 rfl g_o10 ?_
      refine j_iload C dX5_netsOfOccurrences_53 (hl.at 5 rfl) ?_
      obtain ⟨o11, g_o11, h⟩ := bd h
      refine j_aald C dX5_netsOfOccurrences_55 (by decide) hx5 g_o11 ?_
      obtain ⟨o12, g_o12, h⟩ := bd h
      refine j_gR C dX5_netsOfOccurrences_56 fl_RX5_205 rfl g_o12 ?_
      refine k_astore (lv' := [(6, rf b o12), (0, rf b a0), (1, rf b a1), (2, iv x2), (3, rf b a3), (4, iv x4), (5, iv x5)]) C dX5_netsOfOccurrences_59 hl (by decide) rfl (fun ls hl => ?_)
      refine j_iload C dX5_netsOfOccurrences_61 (hl.at 5 rfl) ?_
      refine j_aload C dX5_netsOfOccurrences_63 (hl.at 0 rfl) ?_
      obtain ⟨o13, g_o13, h⟩ := bd h
      refine j_gR C dX5_netsOfOccurrences_65 fl_RX5_77 rfl g_o13 ?_
      obtain ⟨c16, h⟩ := gd_some h
      rcases cI_some h with ⟨S14, v15, wv15, hc, h⟩ | ⟨hc, hne⟩
      · refine j_callI C (run_W (As := []) (rest := [iv x4]) C (m_X0_isLeaf hst hc) cv_RX5_251 (by decide) rfl c16 rfl hl (by simp [cat_iv, cat_rf]) (by decide) (by decide) dX5_netsOfOccurrences_68) (fun hv15 => ?_)
        refine j_if_eq (tgt := 78) C dX5_netsOfOccurrences_71 (by decide) hv15 (fun b1 => ?_) (fun b1 => ?_)
        · rw [if_pos b1] at h
          refine j_aload_n C dX5_netsOfOccurrences_78 rfl (hl.at 1 rfl) ?_
          obtain ⟨o17, g_o17, h⟩ := bd h
          refine j_gR C dX5_netsOfOccurrences_79 fl_RX5_33 rfl g_o17 ?_
          refine j_aload C dX5_netsOfOccurrences_82 (hl.at 0 rfl) ?_
          obtain ⟨v18, g_v18, h⟩ := bd h
          refine j_gI C dX5_netsOfOccurrences_84 fl_RX5_53 (Or.inl rfl) g_v18 (fun hv18 => ?_)
          obtain ⟨v19, g_v19, h⟩ := bd h
          refine j_iald C dX5_netsOfOccurrences_87 hv18 g_v19 (fun hv19 => ?_)
          exact w_X5_netsOfOccurrences_88 C hT hnm hr hk7 ih _ _ _ _ _ _ _ _ hx2 hx5 hv19 hx4 h ls (hl.sub [1, 2, 3, 4, 6] rfl)
        · rw [if_neg b1] at h
          refine j_iconst C dX5_netsOfOccurrences_74 ?_
          refine j_goto (tgt := 88) C dX5_netsOfOccurrences_75 (by decide) ?_
          exact w_X5_netsOfOccurrences_88 C hT hnm hr hk7 ih _ _ _ _ _ _ _ _ hx2 hx5 (by decide) hx4 h ls (hl.sub [1, 2, 3, 4, 6] rfl)
      · exact j_thrown C hT (run_W (As := []) (rest := [iv x4]) C (m_X0_isLeaf hst hc) cv_RX5_251 (by decide) rfl c16 rfl hl (by simp [cat_iv, cat_rf]) (by decide) (by decide) dX5_netsOfOccurrences_68) hne
noncomputable def f_X5_netsOfOccurrences_7 (n : Nat) (a0 : Option Nat) (a1 : Option Nat) (x2 : Int) (S : AS) : Option RS := match n with
  | 0 => none
  | n + 1 =>
    (gR S a0 6 2).bind fun o1 =>
    (gI S o1 3 2).bind fun v2 =>
    if v2 ≤ x2 then
      (gR S a0 6 4).bind fun o3 =>
      (gI S a1 5 0).bind fun v4 =>
      (aI S o3 8 v4).bind fun v5 =>
      rI v5 S
    else
      (gR S a0 6 2).bind fun o6 =>
      (gR S o6 3 0).bind fun o7 =>
      (aR S o7 11 x2).bind fun o8 =>
      (gR S o8 5 6).bind fun o9 =>
      (gI S o9 1 3).bind fun v10 =>
      f_X5_netsOfOccurrences_40 FU (f_X5_netsOfOccurrences_7 n) a0 a1 x2 o9 v10 0 S
set_option maxHeartbeats 4000000 in
set_option maxRecDepth 100000 in
theorem w_X5_netsOfOccurrences_7 {p : Program} {l : Launch} {e : Env} {R : Room} {s : State} {m : MethodId} {args : Array Value} {below : List Frame} {meth : Method} {c : Code} {b : Nat} {D : va_G} {dA : Nat → ClassId} {S0 : AS} {q : RS} (C : hp_C p l e R s m args below meth c b D dA S0 RX5 cX5_netsOfOccurrences 7 39 801) (hT : ∀ x ∈ c.exceptionTable.toList, False) (hnm : meth.name = "netsOfOccurrences") (hr : meth.sig.returnType = (some .int)) : ∀ (n : Nat), ∀ (a0 : Option Nat) (a1 : Option Nat) (x2 : Int) (S : AS), inR x2 → f_X5_netsOfOccurrences_7 n a0 a1 x2 S = some q → ∀ ls : Array Slot, hp_L ls 7 [(0, rf b a0), (1, rf b a1), (2, iv x2)] → hp_J p l e R s m args below meth c b D dA S0 (hp_Q below b D dA S0 1 q args s) S 7 ls [] := by
  have hst : l.stackTraces = false := C.2.2.2.2.2.2.2.2.2.2.1
  intro n
  induction n with
  | zero =>
    intro a0 a1 x2 S hx2 h
    cases h
  | succ n ih =>
    intro a0 a1 x2 S hx2 h ls hl
    unfold f_X5_netsOfOccurrences_7 at h
    refine j_iload_n C dX5_netsOfOccurrences_7 rfl (hl.at 2 rfl) ?_
    refine j_aload_n C dX5_netsOfOccurrences_8 rfl (hl.at 0 rfl) ?_
    obtain ⟨o1, g_o1, h⟩ := bd h
    refine j_gR C dX5_netsOfOccurrences_9 fl_RX5_22 rfl g_o1 ?_
    obtain ⟨v2, g_v2, h⟩ := bd h
    refine j_gI C dX5_netsOfOccurrences_12 fl_RX5_239 (Or.inl rfl) g_v2 (fun hv2 => ?_)
    refine j_icmp_ge (tgt := 128) C dX5_netsOfOccurrences_15 (by decide) hx2 hv2 (fun b1 => ?_) (fun b1 => ?_)
    · rw [if_pos b1] at h
      refine j_aload_n C dX5_netsOfOccurrences_128 rfl (hl.at 0 rfl) ?_
      obtain ⟨o3, g_o3, h⟩ := bd h
      refine j_gR C dX5_netsOfOccurrences_129 fl_RX5_33 rfl g_o3 ?_
      refine j_aload_n C dX5_netsOfOccurrences_132 rfl (hl.at 1 rfl) ?_
      obtain ⟨v4, g_v4, h⟩ := bd h
      refine j_gI C dX5_netsOfOccurrences_133 fl_RX5_53 (Or.inl rfl) g_v4 (fun hv4 => ?_)
      obtain ⟨v5, g_v5, h⟩ := bd h
      refine j_iald C dX5_netsOfOccurrences_136 hv4 g_v5 (fun hv5 => ?_)
      exact j_iret C dX5_netsOfOccurrences_137 hr hv5 h
    · rw [if_neg b1] at h
      refine j_aload_n C dX5_netsOfOccurrences_18 rfl (hl.at 0 rfl) ?_
      obtain ⟨o6, g_o6, h⟩ := bd h
      refine j_gR C dX5_netsOfOccurrences_19 fl_RX5_22 rfl g_o6 ?_
      obtain ⟨o7, g_o7, h⟩ := bd h
      refine j_gR C dX5_netsOfOccurrences_22 fl_RX5_242 rfl g_o7 ?_
      refine j_iload_n C dX5_netsOfOccurrences_25 rfl (hl.at 2 rfl) ?_
      obtain ⟨o8, g_o8, h⟩ := bd h
      refine j_aald C dX5_netsOfOccurrences_26 (by decide) hx2 g_o8 ?_
      obtain ⟨o9, g_o9, h⟩ := bd h
      refine j_gR C dX5_netsOfOccurrences_27 fl_RX5_77 rfl g_o9 ?_
      refine k_astore_n (lv' := [(3, rf b o9), (0, rf b a0), (1, rf b a1), (2, iv x2)]) C dX5_netsOfOccurrences_30 rfl hl (by decide) rfl (fun ls hl => ?_)
      refine j_aload_n C dX5_netsOfOccurrences_31 rfl (hl.at 0 rfl) ?_
      obtain ⟨v10, g_v10, h⟩ := bd h
      refine j_gI C dX5_netsOfOccurrences_32 fl_RX5_110 (Or.inl rfl) g_v10 (fun hv10 => ?_)
      refine k_istore (lv' := [(4, iv v10), (3, rf b o9), (0, rf b a0), (1, rf b a1), (2, iv x2)]) C dX5_netsOfOccurrences_35 hl (by decide) rfl (fun ls hl => ?_)
      refine j_iconst C dX5_netsOfOccurrences_37 ?_
      refine k_istore (lv' := [(5, iv 0), (4, iv v10), (3, rf b o9), (0, rf b a0), (1, rf b a1), (2, iv x2)]) C dX5_netsOfOccurrences_38 hl (by decide) rfl (fun ls hl => ?_)
      exact w_X5_netsOfOccurrences_40 C hT hnm hr ih FU _ _ _ _ _ _ _ hx2 hv10 (by decide) h ls (hl.sub [3, 4, 5, 2, 1, 0] rfl)
noncomputable def f_X5_netsOfOccurrences (a0 : Option Nat) (a1 : Option Nat) (S : AS) : Option RS :=
  gd (isK S a0 6) <|
  cV (f_X5_orderFrom a0 a1 S) fun S1 =>
  f_X5_netsOfOccurrences_7 FU a0 a1 0 S1
set_option maxHeartbeats 4000000 in
set_option maxRecDepth 100000 in
theorem m_X5_netsOfOccurrences {l : Launch} {b : Nat} {D : va_G} {dA : Nat → ClassId} (hst : l.stackTraces = false) {a0 : Option Nat} {a1 : Option Nat} {S : AS} {q : RS} (h : f_X5_netsOfOccurrences a0 a1 S = some q) : hp_M l b D dA yX5_netsOfOccurrences cX5_netsOfOccurrences 7 (some .int) 39 801 [rf b a0, rf b a1] S 1 q := by
  have hcat : ∀ v ∈ ([rf b a0, rf b a1] : List Value), v.category = 1 := (by intro v hv; simp only [List.mem_cons, List.not_mem_nil, or_false] at hv; rcases hv with rfl | rfl <;> first | exact cat_iv _ | exact cat_rf _ _)
  refine hp_ofJ (own := RX5) hst (by decide +kernel) rfl hcat (Nat.le_of_ble_eq_true rfl) ?_
  intro p e R s m args below meth c C hT hnm hr ls hl9
  have hl : hp_L ls 7 [(0, rf b a0), (1, rf b a1)] := hp_L.of hl9 hcat
  unfold f_X5_netsOfOccurrences at h
  refine j_aload_n C dX5_netsOfOccurrences_0 rfl (hl.at 0 rfl) ?_
  refine j_aload_n C dX5_netsOfOccurrences_1 rfl (hl.at 1 rfl) ?_
  obtain ⟨c3, h⟩ := gd_some h
  rcases cV_some h with ⟨S1, y2, hc, h⟩ | ⟨hc, hne⟩
  · refine j_callV C (run_W (As := [rf b a1]) (rest := []) C (m_X5_orderFrom hst hc) cv_RX5_236 (by decide) rfl c3 rfl hl (by decide) (by decide) (by decide) dX5_netsOfOccurrences_2) ?_
    refine j_iconst C dX5_netsOfOccurrences_5 ?_
    refine k_istore_n (lv' := [(2, iv 0), (0, rf b a0), (1, rf b a1)]) C dX5_netsOfOccurrences_6 rfl hl (by decide) rfl (fun ls hl => ?_)
    exact w_X5_netsOfOccurrences_7 C hT hnm hr FU _ _ _ _ (by decide) h ls (hl.sub [1, 2, 0] rfl)
  · exact j_thrown C hT (run_W (As := [rf b a1]) (rest := []) C (m_X5_orderFrom hst hc) cv_RX5_236 (by decide) rfl c3 rfl hl (by decide) (by decide) (by decide) dX5_netsOfOccurrences_2) hne
noncomputable def f_X5_layOut_10 (n : Nat) (rc : Option Nat → Int → Option Nat → Int → AS → Option RS) (a0 : Option Nat) (x1 : Int) (a2 : Option Nat) (x3 : Int) (x4 : Int) (S : AS) : Option RS := match n with
  | 0 => none
  | n + 1 =>
    (gR S a0 5 6).bind fun o1 =>
    (gI S o1 1 2).bind fun v2 =>
    if v2 ≤ x4 then
      rV S
    else
      (gR S a0 5 6).bind fun o3 =>
      (gR S o3 1 1).bind fun o4 =>
      (aR S o4 10 x4).bind fun o5 =>
      (gR S o5 4 0).bind fun o6 =>
      (gR S o6 5 6).bind fun o7 =>
      (gR S a2 2 1).bind fun o8 =>
      (sI S o8 8 x3 x4).bind fun S9 =>
      gd (isK S9 o7 1) <|
      cI (f_X0_isLeaf o7 S9) fun v11 S10 =>
      if v11 = 0 then
        (gI S10 o7 1 3).bind fun v13 =>
        gd (isK S10 a2 2) <|
        cI (f_X1_addNets a2 v13 S10) fun v15 S14 =>
        gd (isK S14 a2 2) <|
        cV (f_X1_uniteOver a2 o5 x1 v15 S14) fun S17 =>
        (gR S17 o5 4 0).bind fun o20 =>
        (chk (x3 + 1)).bind fun z21 =>
        cV (rc o20 v15 a2 z21 S17) fun S22 =>
        (chk (x4 + 1)).bind fun z24 =>
        f_X5_layOut_10 n rc a0 x1 a2 x3 z24 S22
      else
        (chk (x3 + 1)).bind fun z25 =>
        gd (isK S10 a2 2) <|
        cV (f_X1_addLeaf a2 o5 x1 z25 S10) fun S26 =>
        (chk (x4 + 1)).bind fun z29 =>
        f_X5_layOut_10 n rc a0 x1 a2 x3 z29 S26
set_option maxHeartbeats 4000000 in
set_option maxRecDepth 100000 in
theorem w_X5_layOut_10 {p : Program} {l : Launch} {e : Env} {R : Room} {s : State} {m : MethodId} {args : Array Value} {below : List Frame} {meth : Method} {c : Code} {b : Nat} {D : va_G} {dA : Nat → ClassId} {S0 : AS} {q : RS} {d9 : Nat} (C : hp_C p l e R s m args below meth c b D dA S0 RX5 cX5_layOut 8 (9 + (d9 + 1)) (125 + (d9 + 1) * 28)) (hT : ∀ x ∈ c.exceptionTable.toList, False) (hnm : meth.name = "layOut") (hr : meth.sig.returnType = none) {rc : Option Nat → Int → Option Nat → Int → AS → Option RS} (hrc : ∀ (a0 : Option Nat) (x1 : Int) (a2 : Option Nat) (x3 : Int) (S : AS) (q : RS), inR x1 → inR x3 → rc a0 x1 a2 x3 S = some q → hp_M l b D dA yX5_layOut cX5_layOut 8 none (9 + d9) (125 + d9 * 28) [rf b a0, iv x1, rf b a2, iv x3] S 0 q) : ∀ (n : Nat), ∀ (a0 : Option Nat) (x1 : Int) (a2 : Option Nat) (x3 : Int) (x4 : Int) (S : AS), inR x1 → inR x3 → inR x4 → f_X5_layOut_10 n rc a0 x1 a2 x3 x4 S = some q → ∀ ls : Array Slot, hp_L ls 8 [(0, rf b a0), (1, iv x1), (2, rf b a2), (3, iv x3), (4, iv x4)] → hp_J p l e R s m args below meth c b D dA S0 (hp_Q below b D dA S0 0 q args s) S 10 ls [] := by
  have hst : l.stackTraces = false := C.2.2.2.2.2.2.2.2.2.2.1
  intro n
  induction n with
  | zero =>
    intro a0 x1 a2 x3 x4 S hx1 hx3 hx4 h
    cases h
  | succ n ih =>
    intro a0 x1 a2 x3 x4 S hx1 hx3 hx4 h ls hl
    unfold f_X5_layOut_10 at h
    refine j_iload C dX5_layOut_10 (hl.at 4 rfl) ?_
    refine j_aload_n C dX5_layOut_12 rfl (hl.at 0 rfl) ?_
    obtain ⟨o1, g_o1, h⟩ := bd h
    refine j_gR C dX5_layOut_13 fl_RX5_77 rfl g_o1 ?_
    obtain ⟨v2, g_v2, h⟩ := bd h
    refine j_gI C dX5_layOut_16 fl_RX5_81 (Or.inl rfl) g_v2 (fun hv2 => ?_)
    refine j_icmp_ge (tgt := 113) C dX5_layOut_19 (by decide) hx4 hv2 (fun b1 => ?_) (fun b1 => ?_)
    · rw [if_pos b1] at h
      exact j_vret C dX5_layOut_113 hr h
    · rw [if_neg b1] at h
      refine j_aload_n C dX5_layOut_22 rfl (hl.at 0 rfl) ?_
      obtain ⟨o3, g_o3, h⟩ := bd h
      refine j_gR C dX5_layOut_23 fl_RX5_77 rfl g_o3 ?_
      obtain ⟨o4, g_o4, h⟩ := bd h
      refine j_gR C dX5_layOut_26 fl_RX5_209 rfl g_o4 ?_
      refine j_iload C dX5_layOut_29 (hl.at 4 rfl) ?_
      obtain ⟨o5, g_o5, h⟩ := bd h
      refine j_aald C dX5_layOut_31 (by decide) hx4 g_o5 ?_
      refine k_astore (lv' := [(5, rf b o5), (0, rf b a0), (1, iv x1), (2, rf b a2), (3, iv x3), (4, iv x4)]) C dX5_layOut_32 hl (by decide) rfl (fun ls hl => ?_)
      refine j_aload C dX5_layOut_34 (hl.at 0 rfl) ?_
      obtain ⟨o6, g_o6, h⟩ := bd h
      refine j_gR C dX5_layOut_36 fl_RX5_205 rfl g_o6 ?_
      obtain ⟨o7, g_o7, h⟩ := bd h
      refine j_gR C dX5_layOut_39 fl_RX5_77 rfl g_o7 ?_
      refine k_astore (lv' := [(6, rf b o7), (5, rf b o5), (0, rf b a0), (1, iv x1), (2, rf b a2), (3, iv x3), (4, iv x4)]) C dX5_layOut_42 hl (by decide) rfl (fun ls hl => ?_)
      refine j_aload_n C dX5_layOut_44 rfl (hl.at 4 rfl) ?_
      obtain ⟨o8, g_o8, h⟩ := bd h
      refine j_gR C dX5_layOut_45 fl_RX5_259 rfl g_o8 ?_
      refine j_iload_n C dX5_layOut_48 rfl (hl.at 5 rfl) ?_
      refine j_iload C dX5_layOut_49 (hl.at 6 rfl) ?_
      obtain ⟨S9, g_S9, h⟩ := bd h
      refine j_iast C dX5_layOut_51 hx3 hx4 g_S9 ?_
      refine j_aload C dX5_layOut_52 (hl.at 0 rfl) ?_
      obtain ⟨c12, h⟩ := gd_some h
      rcases cI_some h with ⟨S10, v11, wv11, hc, h⟩ | ⟨hc, hne⟩
      · refine j_callI C (run_W (As := []) (rest := []) C (m_X0_isLeaf hst hc) cv_RX5_251 (by decide) rfl c12 rfl hl (by decide) (by omega) (by omega) dX5_layOut_54) (fun hv11 => ?_)
        refine j_if_eq (tgt := 73) C dX5_layOut_57 (by decide) hv11 (fun b1 => ?_) (fun b1 => ?_)
        · rw [if_pos b1] at h
          refine j_aload_n C dX5_layOut_73 rfl (hl.at 4 rfl) ?_
          refine j_aload C dX5_layOut_74 (hl.at 0 rfl) ?_
          obtain ⟨v13, g_v13, h⟩ := bd h
          refine j_gI C dX5_layOut_76 fl_RX5_110 (Or.inl rfl) g_v13 (fun hv13 => ?_)
          obtain ⟨c16, h⟩ := gd_some h
          rcases cI_some h with ⟨S14, v15, wv15, hc, h⟩ | ⟨hc, hne⟩
          · refine j_callI C (run_W (As := [iv v13]) (rest := []) C (m_X1_addNets hst hv13 hc) cv_RX5_168 (by decide) rfl c16 rfl hl (by decide) (by omega) (by omega) dX5_layOut_79) (fun hv15 => ?_)
            refine k_istore (lv' := [(7, iv v15), (6, rf b o7), (5, rf b o5), (0, rf b a0), (1, iv x1), (2, rf b a2), (3, iv x3), (4, iv x4)]) C dX5_layOut_82 hl (by decide) rfl (fun ls hl => ?_)
            refine j_aload_n C dX5_layOut_84 rfl (hl.at 5 rfl) ?_
            refine j_aload C dX5_layOut_85 (hl.at 2 rfl) ?_
            refine j_iload_n C dX5_layOut_87 rfl (hl.at 4 rfl) ?_
            refine j_iload C dX5_layOut_88 (hl.at 0 rfl) ?_
            obtain ⟨c19, h⟩ := gd_some h
            rcases cV_some h with ⟨S17, y18, hc, h⟩ | ⟨hc, hne⟩
            · refine j_callV C (run_W (As := [rf b o5, iv x1, iv v15]) (rest := []) C (m_X1_uniteOver hst hx1 hv15 hc) cv_RX5_264 (by decide) rfl c19 rfl hl (by decide) (by omega) (by omega) dX5_layOut_90) ?_
              refine j_aload C dX5_layOut_93 (hl.at 2 rfl) ?_
              obtain ⟨o20, g_o20, h⟩ := bd h
              refine j_gR C dX5_layOut_95 fl_RX5_205 rfl g_o20 ?_
              refine j_iload C dX5_layOut_98 (hl.at 0 rfl) ?_
              refine j_aload_n C dX5_layOut_100 rfl (hl.at 5 rfl) ?_
              refine j_iload_n C dX5_layOut_101 rfl (hl.at 6 rfl) ?_
              refine j_iconst C dX5_layOut_102 ?_
              obtain ⟨z21, g_z21, h⟩ := bd h
              refine j_iadd C dX5_layOut_103 g_z21 (fun hz21 => ?_)
              rcases cV_some h with ⟨S22, y23, hc, h⟩ | ⟨hc, hne⟩
              · refine j_callV C (run_S (As := [rf b o20, iv v15, rf b a2, iv z21]) (rest := []) C (hrc _ _ _ _ _ _ hv15 hz21 hc) cs_RX5_172 rfl hl.1.1 (by decide) (by omega) (by omega) dX5_layOut_104) ?_
                obtain ⟨z24, g_z24, h⟩ := bd h
                refine k_iinc (k9 := 7) (lv' := [(4, iv z24), (7, iv v15), (6, rf b o7), (5, rf b o5), (0, rf b a0), (1, iv x1), (2, rf b a2), (3, iv x3)]) C dX5_layOut_107 hl rfl g_z24 (by decide) rfl (fun hz24 ls hl => ?_)
                refine j_goto (tgt := 10) C dX5_layOut_110 (by decide) ?_
                exact ih _ _ _ _ _ _ hx1 hx3 hz24 h ls (hl.sub [4, 5, 6, 7, 0] rfl)
              · exact j_thrown C hT (run_S (As := [rf b o20, iv v15, rf b a2, iv z21]) (rest := []) C (hrc _ _ _ _ _ _ hv15 hz21 hc) cs_RX5_172 rfl hl.1.1 (by decide) (by omega) (by omega) dX5_layOut_104) hne
            · exact j_thrown C hT (run_W (As := [rf b o5, iv x1, iv v15]) (rest := []) C (m_X1_uniteOver hst hx1 hv15 hc) cv_RX5_264 (by decide) rfl c19 rfl hl (by decide) (by omega) (by omega) dX5_layOut_90) hne
          · exact j_thrown C hT (run_W (As := [iv v13]) (rest := []) C (m_X1_addNets hst hv13 hc) cv_RX5_168 (by decide) rfl c16 rfl hl (by decide) (by omega) (by omega) dX5_layOut_79) hne
        · rw [if_neg b1] at h
          refine j_aload_n C dX5_layOut_60 rfl (hl.at 4 rfl) ?_
          refine j_aload C dX5_layOut_61 (hl.at 1 rfl) ?_
          refine j_iload_n C dX5_layOut_63 rfl (hl.at 3 rfl) ?_
          refine j_iload_n C dX5_layOut_64 rfl (hl.at 5 rfl) ?_
          refine j_iconst C dX5_layOut_65 ?_
          obtain ⟨z25, g_z25, h⟩ := bd h
          refine j_iadd C dX5_layOut_66 g_z25 (fun hz25 => ?_)
          obtain ⟨c28, h⟩ := gd_some h
          rcases cV_some h with ⟨S26, y27, hc, h⟩ | ⟨hc, hne⟩
          · refine j_callV C (run_W (As := [rf b o5, iv x1, iv z25]) (rest := []) C (m_X1_addLeaf hst hx1 hz25 hc) cv_RX5_260 (by decide) rfl c28 rfl hl (by decide) (by omega) (by omega) dX5_layOut_67) ?_
            refine j_goto (tgt := 107) C dX5_layOut_70 (by decide) ?_
            obtain ⟨z29, g_z29, h⟩ := bd h
            refine k_iinc (k9 := 6) (lv' := [(4, iv z29), (6, rf b o7), (5, rf b o5), (0, rf b a0), (1, iv x1), (2, rf b a2), (3, iv x3)]) C dX5_layOut_107 hl rfl g_z29 (by decide) rfl (fun hz29 ls hl => ?_)
            refine j_goto (tgt := 10) C dX5_layOut_110 (by decide) ?_
            exact ih _ _ _ _ _ _ hx1 hx3 hz29 h ls (hl.sub [3, 4, 5, 6, 0] rfl)
          · exact j_thrown C hT (run_W (As := [rf b o5, iv x1, iv z25]) (rest := []) C (m_X1_addLeaf hst hx1 hz25 hc) cv_RX5_260 (by decide) rfl c28 rfl hl (by decide) (by omega) (by omega) dX5_layOut_67) hne
      · exact j_thrown C hT (run_W (As := []) (rest := []) C (m_X0_isLeaf hst hc) cv_RX5_251 (by decide) rfl c12 rfl hl (by decide) (by omega) (by omega) dX5_layOut_54) hne
noncomputable def f_X5_layOut (d9 : Nat) (a0 : Option Nat) (x1 : Int) (a2 : Option Nat) (x3 : Int) (S : AS) : Option RS := match d9 with
  | 0 => none
  | d9 + 1 =>
    let rc := f_X5_layOut d9
    if x3 < 24 then
      f_X5_layOut_10 FU rc a0 x1 a2 x3 0 S
    else
      rV S
set_option maxHeartbeats 4000000 in
set_option maxRecDepth 100000 in
theorem m_X5_layOut {l : Launch} {b : Nat} {D : va_G} {dA : Nat → ClassId} (hst : l.stackTraces = false) : ∀ (d9 : Nat) {a0 : Option Nat} {x1 : Int} {a2 : Option Nat} {x3 : Int} {S : AS} {q : RS} (hx1 : inR x1) (hx3 : inR x3) (h : f_X5_layOut d9 a0 x1 a2 x3 S = some q), hp_M l b D dA yX5_layOut cX5_layOut 8 none (9 + d9) (125 + d9 * 28) [rf b a0, iv x1, rf b a2, iv x3] S 0 q := by
  intro d9
  induction d9 with
  | zero =>
    intro a0 x1 a2 x3 S q hx1 hx3 h
    cases h
  | succ d9 ih9 =>
    intro a0 x1 a2 x3 S q hx1 hx3 h
    have hcat : ∀ v ∈ ([rf b a0, iv x1, rf b a2, iv x3] : List Value), v.category = 1 := (by intro v hv; simp only [List.mem_cons, List.not_mem_nil, or_false] at hv; rcases hv with rfl | rfl | rfl | rfl <;> first | exact cat_iv _ | exact cat_rf _ _)
    refine hp_ofJ (own := RX5) hst (by decide +kernel) rfl hcat (Nat.le_of_ble_eq_true rfl) ?_
    intro p e R s m args below meth c C hT hnm hr ls hl9
    have hl : hp_L ls 8 [(0, rf b a0), (1, iv x1), (2, rf b a2), (3, iv x3)] := hp_L.of hl9 hcat
    unfold f_X5_layOut at h
    have hrc : ∀ (a0 : Option Nat) (x1 : Int) (a2 : Option Nat) (x3 : Int) (S : AS) (q : RS), inR x1 → inR x3 → f_X5_layOut d9 a0 x1 a2 x3 S = some q → hp_M l b D dA yX5_layOut cX5_layOut 8 none (9 + d9) (125 + d9 * 28) [rf b a0, iv x1, rf b a2, iv x3] S 0 q := fun a0 x1 a2 x3 S q hx1 hx3 h => ih9 hx1 hx3 h
    generalize f_X5_layOut d9 = rc at h hrc
    refine j_iload_n C dX5_layOut_0 rfl (hl.at 3 rfl) ?_
    refine j_bipush (x := 24) C dX5_layOut_1 (by decide) ?_
    refine j_icmp_lt (tgt := 7) C dX5_layOut_3 (by decide) hx3 (by decide) (fun b1 => ?_) (fun b1 => ?_)
    · rw [if_pos b1] at h
      refine j_iconst C dX5_layOut_7 ?_
      refine k_istore (lv' := [(4, iv 0), (0, rf b a0), (1, iv x1), (2, rf b a2), (3, iv x3)]) C dX5_layOut_8 hl (by decide) rfl (fun ls hl => ?_)
      exact w_X5_layOut_10 C hT hnm hr hrc FU _ _ _ _ _ _ hx1 hx3 (by decide) h ls (hl.sub [1, 2, 3, 4, 0] rfl)
    · rw [if_neg b1] at h
      exact j_vret C dX5_layOut_6 hr h
noncomputable def f_X5_isSameInside_42 (n : Nat) (a0 : Option Nat) (a1 : Option Nat) (a2 : Option Nat) (x3 : Int) (S : AS) : Option RS := match n with
  | 0 => none
  | n + 1 =>
    (gI S a1 1 2).bind fun v1 =>
    if v1 ≤ x3 then
      rZ 1 S
    else
      (gR S a1 1 1).bind fun o2 =>
      (aR S o2 10 x3).bind fun o3 =>
      (gR S a2 1 1).bind fun o4 =>
      (aR S o4 10 x3).bind fun o5 =>
      (gR S a0 6 4).bind fun o6 =>
      (gR S o3 4 0).bind fun o7 =>
      (gI S o7 5 0).bind fun v8 =>
      (aI S o6 8 v8).bind fun v9 =>
      (gR S a0 6 4).bind fun o10 =>
      (gR S o5 4 0).bind fun o11 =>
      (gI S o11 5 0).bind fun v12 =>
      (aI S o10 8 v12).bind fun v13 =>
      if v9 = v13 then
        (gR S o3 4 2).bind fun o14 =>
        (gR S o5 4 2).bind fun o15 =>
        cI (f_X5_isSameRow o14 o15 S) fun v17 S16 =>
        if v17 = 0 then
          rZ 0 S16
        else
          (chk (x3 + 1)).bind fun z18 =>
          f_X5_isSameInside_42 n a0 a1 a2 z18 S16
      else
        rZ 0 S
set_option maxHeartbeats 4000000 in
set_option maxRecDepth 100000 in
theorem w_X5_isSameInside_42 {p : Program} {l : Launch} {e : Env} {R : Room} {s : State} {m : MethodId} {args : Array Value} {below : List Frame} {meth : Method} {c : Code} {b : Nat} {D : va_G} {dA : Nat → ClassId} {S0 : AS} {q : RS} (C : hp_C p l e R s m args below meth c b D dA S0 RX5 cX5_isSameInside 6 7 38) (hT : ∀ x ∈ c.exceptionTable.toList, False) (hnm : meth.name = "isSameInside") (hr : meth.sig.returnType = (some .boolean)) : ∀ (n : Nat), ∀ (a0 : Option Nat) (a1 : Option Nat) (a2 : Option Nat) (x3 : Int) (S : AS), inR x3 → f_X5_isSameInside_42 n a0 a1 a2 x3 S = some q → ∀ ls : Array Slot, hp_L ls 6 [(0, rf b a0), (1, rf b a1), (2, rf b a2), (3, iv x3)] → hp_J p l e R s m args below meth c b D dA S0 (hp_Q below b D dA S0 1 q args s) S 42 ls [] := by
  have hst : l.stackTraces = false := C.2.2.2.2.2.2.2.2.2.2.1
  intro n
  induction n with
  | zero =>
    intro a0 a1 a2 x3 S hx3 h
    cases h
  | succ n ih =>
    intro a0 a1 a2 x3 S hx3 h ls hl
    unfold f_X5_isSameInside_42 at h
    refine j_iload_n C dX5_isSameInside_42 rfl (hl.at 3 rfl) ?_
    refine j_aload_n C dX5_isSameInside_43 rfl (hl.at 1 rfl) ?_
    obtain ⟨v1, g_v1, h⟩ := bd h
    refine j_gI C dX5_isSameInside_44 fl_RX5_81 (Or.inl rfl) g_v1 (fun hv1 => ?_)
    refine j_icmp_ge (tgt := 119) C dX5_isSameInside_47 (by decide) hx3 hv1 (fun b1 => ?_) (fun b1 => ?_)
    · rw [if_pos b1] at h
      refine j_iconst C dX5_isSameInside_119 ?_
      exact j_zret C dX5_isSameInside_120 hr h
    · rw [if_neg b1] at h
      refine j_aload_n C dX5_isSameInside_50 rfl (hl.at 1 rfl) ?_
      obtain ⟨o2, g_o2, h⟩ := bd h
      refine j_gR C dX5_isSameInside_51 fl_RX5_209 rfl g_o2 ?_
      refine j_iload_n C dX5_isSameInside_54 rfl (hl.at 3 rfl) ?_
      obtain ⟨o3, g_o3, h⟩ := bd h
      refine j_aald C dX5_isSameInside_55 (by decide) hx3 g_o3 ?_
      refine k_astore (lv' := [(4, rf b o3), (0, rf b a0), (1, rf b a1), (2, rf b a2), (3, iv x3)]) C dX5_isSameInside_56 hl (by decide) rfl (fun ls hl => ?_)
      refine j_aload_n C dX5_isSameInside_58 rfl (hl.at 3 rfl) ?_
      obtain ⟨o4, g_o4, h⟩ := bd h
      refine j_gR C dX5_isSameInside_59 fl_RX5_209 rfl g_o4 ?_
      refine j_iload_n C dX5_isSameInside_62 rfl (hl.at 4 rfl) ?_
      obtain ⟨o5, g_o5, h⟩ := bd h
      refine j_aald C dX5_isSameInside_63 (by decide) hx3 g_o5 ?_
      refine k_astore (lv' := [(5, rf b o5), (4, rf b o3), (0, rf b a0), (1, rf b a1), (2, rf b a2), (3, iv x3)]) C dX5_isSameInside_64 hl (by decide) rfl (fun ls hl => ?_)
      refine j_aload_n C dX5_isSameInside_66 rfl (hl.at 2 rfl) ?_
      obtain ⟨o6, g_o6, h⟩ := bd h
      refine j_gR C dX5_isSameInside_67 fl_RX5_33 rfl g_o6 ?_
      refine j_aload C dX5_isSameInside_70 (hl.at 1 rfl) ?_
      obtain ⟨o7, g_o7, h⟩ := bd h
      refine j_gR C dX5_isSameInside_72 fl_RX5_205 rfl g_o7 ?_
      obtain ⟨v8, g_v8, h⟩ := bd h
      refine j_gI C dX5_isSameInside_75 fl_RX5_53 (Or.inl rfl) g_v8 (fun hv8 => ?_)
      obtain ⟨v9, g_v9, h⟩ := bd h
      refine j_iald C dX5_isSameInside_78 hv8 g_v9 (fun hv9 => ?_)
      refine j_aload_n C dX5_isSameInside_79 rfl (hl.at 2 rfl) ?_
      obtain ⟨o10, g_o10, h⟩ := bd h
      refine j_gR C dX5_isSameInside_80 fl_RX5_33 rfl g_o10 ?_
      refine j_aload C dX5_isSameInside_83 (hl.at 0 rfl) ?_
      obtain ⟨o11, g_o11, h⟩ := bd h
      refine j_gR C dX5_isSameInside_85 fl_RX5_205 rfl g_o11 ?_
      obtain ⟨v12, g_v12, h⟩ := bd h
      refine j_gI C dX5_isSameInside_88 fl_RX5_53 (Or.inl rfl) g_v12 (fun hv12 => ?_)
      obtain ⟨v13, g_v13, h⟩ := bd h
      refine j_iald C dX5_isSameInside_91 hv12 g_v13 (fun hv13 => ?_)
      refine j_icmp_ne (tgt := 111) C dX5_isSameInside_92 (by decide) hv9 hv13 (fun b1 => ?_) (fun b1 => ?_)
      · rw [if_neg b1] at h
        refine j_iconst C dX5_isSameInside_111 ?_
        exact j_zret C dX5_isSameInside_112 hr h
      · rw [if_pos (Decidable.byContradiction b1)] at h
        refine j_aload C dX5_isSameInside_95 (hl.at 1 rfl) ?_
        obtain ⟨o14, g_o14, h⟩ := bd h
        refine j_gR C dX5_isSameInside_97 fl_RX5_220 rfl g_o14 ?_
        refine j_aload C dX5_isSameInside_100 (hl.at 0 rfl) ?_
        obtain ⟨o15, g_o15, h⟩ := bd h
        refine j_gR C dX5_isSameInside_102 fl_RX5_220 rfl g_o15 ?_
        rcases cI_some h with ⟨S16, v17, wv17, hc, h⟩ | ⟨hc, hne⟩
        · refine j_callI C (run_S (As := [rf b o14, rf b o15]) (rest := []) C (m_X5_isSameRow hst hc) cs_RX5_284 rfl hl.1.1 (by decide) (by decide) (by decide) dX5_isSameInside_105) (fun hv17 => ?_)
          refine j_if_ne (tgt := 113) C dX5_isSameInside_108 (by decide) hv17 (fun b1 => ?_) (fun b1 => ?_)
          · rw [if_neg b1] at h
            obtain ⟨z18, g_z18, h⟩ := bd h
            refine k_iinc (k9 := 5) (lv' := [(3, iv z18), (5, rf b o5), (4, rf b o3), (0, rf b a0), (1, rf b a1), (2, rf b a2)]) C dX5_isSameInside_113 hl rfl g_z18 (by decide) rfl (fun hz18 ls hl => ?_)
            refine j_goto (tgt := 42) C dX5_isSameInside_116 (by decide) ?_
            exact ih _ _ _ _ _ hz18 h ls (hl.sub [3, 4, 5, 0] rfl)
          · rw [if_pos (Decidable.byContradiction b1)] at h
            refine j_iconst C dX5_isSameInside_111 ?_
            exact j_zret C dX5_isSameInside_112 hr h
        · exact j_thrown C hT (run_S (As := [rf b o14, rf b o15]) (rest := []) C (m_X5_isSameRow hst hc) cs_RX5_284 rfl hl.1.1 (by decide) (by decide) (by decide) dX5_isSameInside_105) hne
noncomputable def f_X5_isSameInside (a0 : Option Nat) (a1 : Option Nat) (a2 : Option Nat) (S : AS) : Option RS :=
  (gI S a1 1 2).bind fun v1 =>
  (gI S a2 1 2).bind fun v2 =>
  if v1 = v2 then
    (gI S a1 1 3).bind fun v3 =>
    (gI S a2 1 3).bind fun v4 =>
    if v3 = v4 then
      (gR S a1 1 0).bind fun o5 =>
      (gR S a2 1 0).bind fun o6 =>
      cI (f_X5_isSameRow o5 o6 S) fun v8 S7 =>
      if v8 = 0 then
        rZ 0 S7
      else
        f_X5_isSameInside_42 FU a0 a1 a2 0 S7
    else
      rZ 0 S
  else
    rZ 0 S
set_option maxHeartbeats 4000000 in
set_option maxRecDepth 100000 in
theorem m_X5_isSameInside {l : Launch} {b : Nat} {D : va_G} {dA : Nat → ClassId} (hst : l.stackTraces = false) {a0 : Option Nat} {a1 : Option Nat} {a2 : Option Nat} {S : AS} {q : RS} (h : f_X5_isSameInside a0 a1 a2 S = some q) : hp_M l b D dA yX5_isSameInside cX5_isSameInside 6 (some .boolean) 7 38 [rf b a0, rf b a1, rf b a2] S 1 q := by
  have hcat : ∀ v ∈ ([rf b a0, rf b a1, rf b a2] : List Value), v.category = 1 := (by intro v hv; simp only [List.mem_cons, List.not_mem_nil, or_false] at hv; rcases hv with rfl | rfl | rfl <;> first | exact cat_iv _ | exact cat_rf _ _)
  refine hp_ofJ (own := RX5) hst (by decide +kernel) rfl hcat (Nat.le_of_ble_eq_true rfl) ?_
  intro p e R s m args below meth c C hT hnm hr ls hl9
  have hl : hp_L ls 6 [(0, rf b a0), (1, rf b a1), (2, rf b a2)] := hp_L.of hl9 hcat
  unfold f_X5_isSameInside at h
  refine j_aload_n C dX5_isSameInside_0 rfl (hl.at 1 rfl) ?_
  obtain ⟨v1, g_v1, h⟩ := bd h
  refine j_gI C dX5_isSameInside_1 fl_RX5_81 (Or.inl rfl) g_v1 (fun hv1 => ?_)
  refine j_aload_n C dX5_isSameInside_4 rfl (hl.at 2 rfl) ?_
  obtain ⟨v2, g_v2, h⟩ := bd h
  refine j_gI C dX5_isSameInside_5 fl_RX5_81 (Or.inl rfl) g_v2 (fun hv2 => ?_)
  refine j_icmp_ne (tgt := 22) C dX5_isSameInside_8 (by decide) hv1 hv2 (fun b1 => ?_) (fun b1 => ?_)
  · rw [if_neg b1] at h
    refine j_iconst C dX5_isSameInside_22 ?_
    exact j_zret C dX5_isSameInside_23 hr h
  · rw [if_pos (Decidable.byContradiction b1)] at h
    refine j_aload_n C dX5_isSameInside_11 rfl (hl.at 1 rfl) ?_
    obtain ⟨v3, g_v3, h⟩ := bd h
    refine j_gI C dX5_isSameInside_12 fl_RX5_110 (Or.inl rfl) g_v3 (fun hv3 => ?_)
    refine j_aload_n C dX5_isSameInside_15 rfl (hl.at 2 rfl) ?_
    obtain ⟨v4, g_v4, h⟩ := bd h
    refine j_gI C dX5_isSameInside_16 fl_RX5_110 (Or.inl rfl) g_v4 (fun hv4 => ?_)
    refine j_icmp_eq (tgt := 24) C dX5_isSameInside_19 (by decide) hv3 hv4 (fun b1 => ?_) (fun b1 => ?_)
    · rw [if_pos b1] at h
      refine j_aload_n C dX5_isSameInside_24 rfl (hl.at 1 rfl) ?_
      obtain ⟨o5, g_o5, h⟩ := bd h
      refine j_gR C dX5_isSameInside_25 fl_RX5_281 rfl g_o5 ?_
      refine j_aload_n C dX5_isSameInside_28 rfl (hl.at 2 rfl) ?_
      obtain ⟨o6, g_o6, h⟩ := bd h
      refine j_gR C dX5_isSameInside_29 fl_RX5_281 rfl g_o6 ?_
      rcases cI_some h with ⟨S7, v8, wv8, hc, h⟩ | ⟨hc, hne⟩
      · refine j_callI C (run_S (As := [rf b o5, rf b o6]) (rest := []) C (m_X5_isSameRow hst hc) cs_RX5_284 rfl hl.1.1 (by decide) (by decide) (by decide) dX5_isSameInside_32) (fun hv8 => ?_)
        refine j_if_ne (tgt := 40) C dX5_isSameInside_35 (by decide) hv8 (fun b1 => ?_) (fun b1 => ?_)
        · rw [if_neg b1] at h
          refine j_iconst C dX5_isSameInside_40 ?_
          refine k_istore_n (lv' := [(3, iv 0), (0, rf b a0), (1, rf b a1), (2, rf b a2)]) C dX5_isSameInside_41 rfl hl (by decide) rfl (fun ls hl => ?_)
          exact w_X5_isSameInside_42 C hT hnm hr FU _ _ _ _ _ (by decide) h ls (hl.sub [1, 2, 3, 0] rfl)
        · rw [if_pos (Decidable.byContradiction b1)] at h
          refine j_iconst C dX5_isSameInside_38 ?_
          exact j_zret C dX5_isSameInside_39 hr h
      · exact j_thrown C hT (run_S (As := [rf b o5, rf b o6]) (rest := []) C (m_X5_isSameRow hst hc) cs_RX5_284 rfl hl.1.1 (by decide) (by decide) (by decide) dX5_isSameInside_32) hne
    · rw [if_neg b1] at h
      refine j_iconst C dX5_isSameInside_22 ?_
      exact j_zret C dX5_isSameInside_23 hr h
noncomputable def f_X5_isSame (a0 : Option Nat) (a1 : Option Nat) (a2 : Option Nat) (S : AS) : Option RS :=
  gd (isK S a1 5) <|
  cI (f_X4_hasPortsOf a1 a2 S) fun v2 S1 =>
  if v2 = 0 then
    rZ 0 S1
  else
    (gR S1 a1 5 6).bind fun o4 =>
    (gR S1 a2 5 6).bind fun o5 =>
    if o4 = o5 then
      rZ 1 S1
    else
      (gR S1 a1 5 6).bind fun o6 =>
      (gR S1 a2 5 6).bind fun o7 =>
      gd (isK S1 a0 6) <|
      cI (f_X5_isSameInside a0 o6 o7 S1) fun v9 S8 =>
      if v9 = 0 then
        rZ 0 S8
      else
        rZ 1 S8
set_option maxHeartbeats 4000000 in
set_option maxRecDepth 100000 in
theorem m_X5_isSame {l : Launch} {b : Nat} {D : va_G} {dA : Nat → ClassId} (hst : l.stackTraces = false) {a0 : Option Nat} {a1 : Option Nat} {a2 : Option Nat} {S : AS} {q : RS} (h : f_X5_isSame a0 a1 a2 S = some q) : hp_M l b D dA yX5_isSame cX5_isSame 3 (some .boolean) 8 63 [rf b a0, rf b a1, rf b a2] S 1 q := by
  have hcat : ∀ v ∈ ([rf b a0, rf b a1, rf b a2] : List Value), v.category = 1 := (by intro v hv; simp only [List.mem_cons, List.not_mem_nil, or_false] at hv; rcases hv with rfl | rfl | rfl <;> first | exact cat_iv _ | exact cat_rf _ _)
  refine hp_ofJ (own := RX5) hst (by decide +kernel) rfl hcat (Nat.le_of_ble_eq_true rfl) ?_
  intro p e R s m args below meth c C hT hnm hr ls hl9
  have hl : hp_L ls 3 [(0, rf b a0), (1, rf b a1), (2, rf b a2)] := hp_L.of hl9 hcat
  unfold f_X5_isSame at h
  refine j_aload_n C dX5_isSame_0 rfl (hl.at 1 rfl) ?_
  refine j_aload_n C dX5_isSame_1 rfl (hl.at 2 rfl) ?_
  obtain ⟨c3, h⟩ := gd_some h
  rcases cI_some h with ⟨S1, v2, wv2, hc, h⟩ | ⟨hc, hne⟩
  · refine j_callI C (run_W (As := [rf b a2]) (rest := []) C (m_X4_hasPortsOf hst hc) cv_RX5_273 (by decide) rfl c3 rfl hl (by decide) (by decide) (by decide) dX5_isSame_2) (fun hv2 => ?_)
    refine j_if_eq (tgt := 38) C dX5_isSame_5 (by decide) hv2 (fun b1 => ?_) (fun b1 => ?_)
    · rw [if_pos b1] at h
      refine j_iconst C dX5_isSame_38 ?_
      exact j_zret C dX5_isSame_39 hr h
    · rw [if_neg b1] at h
      refine j_aload_n C dX5_isSame_8 rfl (hl.at 1 rfl) ?_
      obtain ⟨o4, g_o4, h⟩ := bd h
      refine j_gR C dX5_isSame_9 fl_RX5_77 rfl g_o4 ?_
      refine j_aload_n C dX5_isSame_12 rfl (hl.at 2 rfl) ?_
      obtain ⟨o5, g_o5, h⟩ := bd h
      refine j_gR C dX5_isSame_13 fl_RX5_77 rfl g_o5 ?_
      refine j_acmp_eq (tgt := 34) C dX5_isSame_16 (by decide) (fun b1 => ?_) (fun b1 => ?_)
      · rw [if_pos b1] at h
        refine j_iconst C dX5_isSame_34 ?_
        refine j_goto (tgt := 39) C dX5_isSame_35 (by decide) ?_
        exact j_zret C dX5_isSame_39 hr h
      · rw [if_neg b1] at h
        refine j_aload_n C dX5_isSame_19 rfl (hl.at 0 rfl) ?_
        refine j_aload_n C dX5_isSame_20 rfl (hl.at 1 rfl) ?_
        obtain ⟨o6, g_o6, h⟩ := bd h
        refine j_gR C dX5_isSame_21 fl_RX5_77 rfl g_o6 ?_
        refine j_aload_n C dX5_isSame_24 rfl (hl.at 2 rfl) ?_
        obtain ⟨o7, g_o7, h⟩ := bd h
        refine j_gR C dX5_isSame_25 fl_RX5_77 rfl g_o7 ?_
        obtain ⟨c10, h⟩ := gd_some h
        rcases cI_some h with ⟨S8, v9, wv9, hc, h⟩ | ⟨hc, hne⟩
        · refine j_callI C (run_W (As := [rf b o6, rf b o7]) (rest := []) C (m_X5_isSameInside hst hc) cv_RX5_277 (by decide) rfl c10 rfl hl (by decide) (by decide) (by decide) dX5_isSame_28) (fun hv9 => ?_)
          refine j_if_eq (tgt := 38) C dX5_isSame_31 (by decide) hv9 (fun b1 => ?_) (fun b1 => ?_)
          · rw [if_pos b1] at h
            refine j_iconst C dX5_isSame_38 ?_
            exact j_zret C dX5_isSame_39 hr h
          · rw [if_neg b1] at h
            refine j_iconst C dX5_isSame_34 ?_
            refine j_goto (tgt := 39) C dX5_isSame_35 (by decide) ?_
            exact j_zret C dX5_isSame_39 hr h
        · exact j_thrown C hT (run_W (As := [rf b o6, rf b o7]) (rest := []) C (m_X5_isSameInside hst hc) cv_RX5_277 (by decide) rfl c10 rfl hl (by decide) (by decide) (by decide) dX5_isSame_28) hne
  · exact j_thrown C hT (run_W (As := [rf b a2]) (rest := []) C (m_X4_hasPortsOf hst hc) cv_RX5_273 (by decide) rfl c3 rfl hl (by decide) (by decide) (by decide) dX5_isSame_2) hne
noncomputable def f_X5_firstAlike_12 (n : Nat) (a0 : Option Nat) (x1 : Int) (a2 : Option Nat) (x3 : Int) (S : AS) : Option RS := match n with
  | 0 => none
  | n + 1 =>
    if x1 ≤ x3 then
      rR a2 S
    else
      (gR S a0 6 2).bind fun o1 =>
      (gR S o1 3 0).bind fun o2 =>
      (aR S o2 11 x3).bind fun o3 =>
      (gR S a0 6 4).bind fun o4 =>
      (gI S o3 5 0).bind fun v5 =>
      (aI S o4 8 v5).bind fun v6 =>
      (gI S o3 5 0).bind fun v7 =>
      if v6 = v7 then
        gd (isK S a0 6) <|
        cI (f_X5_isSame a0 a2 o3 S) fun v10 S9 =>
        if v10 = 0 then
          (chk (x3 + 1)).bind fun z12 =>
          f_X5_firstAlike_12 n a0 x1 a2 z12 S9
        else
          rR o3 S9
      else
        (chk (x3 + 1)).bind fun z8 =>
        f_X5_firstAlike_12 n a0 x1 a2 z8 S
set_option maxHeartbeats 4000000 in
set_option maxRecDepth 100000 in
theorem w_X5_firstAlike_12 {p : Program} {l : Launch} {e : Env} {R : Room} {s : State} {m : MethodId} {args : Array Value} {below : List Frame} {meth : Method} {c : Code} {b : Nat} {D : va_G} {dA : Nat → ClassId} {S0 : AS} {q : RS} (C : hp_C p l e R s m args below meth c b D dA S0 RX5 cX5_firstAlike 5 9 85) (hT : ∀ x ∈ c.exceptionTable.toList, False) (hnm : meth.name = "firstAlike") (hr : meth.sig.returnType = (some (.object "DesignTrees$Shell"))) : ∀ (n : Nat), ∀ (a0 : Option Nat) (x1 : Int) (a2 : Option Nat) (x3 : Int) (S : AS), inR x1 → inR x3 → f_X5_firstAlike_12 n a0 x1 a2 x3 S = some q → ∀ ls : Array Slot, hp_L ls 5 [(0, rf b a0), (1, iv x1), (2, rf b a2), (3, iv x3)] → hp_J p l e R s m args below meth c b D dA S0 (hp_Q below b D dA S0 2 q args s) S 12 ls [] := by
  have hst : l.stackTraces = false := C.2.2.2.2.2.2.2.2.2.2.1
  intro n
  induction n with
  | zero =>
    intro a0 x1 a2 x3 S hx1 hx3 h
    cases h
  | succ n ih =>
    intro a0 x1 a2 x3 S hx1 hx3 h ls hl
    unfold f_X5_firstAlike_12 at h
    refine j_iload_n C dX5_firstAlike_12 rfl (hl.at 3 rfl) ?_
    refine j_iload_n C dX5_firstAlike_13 rfl (hl.at 1 rfl) ?_
    refine j_icmp_ge (tgt := 65) C dX5_firstAlike_14 (by decide) hx3 hx1 (fun b1 => ?_) (fun b1 => ?_)
    · rw [if_pos b1] at h
      refine j_aload_n C dX5_firstAlike_65 rfl (hl.at 2 rfl) ?_
      exact j_aret C dX5_firstAlike_66 hr rfl h
    · rw [if_neg b1] at h
      refine j_aload_n C dX5_firstAlike_17 rfl (hl.at 0 rfl) ?_
      obtain ⟨o1, g_o1, h⟩ := bd h
      refine j_gR C dX5_firstAlike_18 fl_RX5_22 rfl g_o1 ?_
      obtain ⟨o2, g_o2, h⟩ := bd h
      refine j_gR C dX5_firstAlike_21 fl_RX5_242 rfl g_o2 ?_
      refine j_iload_n C dX5_firstAlike_24 rfl (hl.at 3 rfl) ?_
      obtain ⟨o3, g_o3, h⟩ := bd h
      refine j_aald C dX5_firstAlike_25 (by decide) hx3 g_o3 ?_
      refine k_astore (lv' := [(4, rf b o3), (0, rf b a0), (1, iv x1), (2, rf b a2), (3, iv x3)]) C dX5_firstAlike_26 hl (by decide) rfl (fun ls hl => ?_)
      refine j_aload_n C dX5_firstAlike_28 rfl (hl.at 1 rfl) ?_
      obtain ⟨o4, g_o4, h⟩ := bd h
      refine j_gR C dX5_firstAlike_29 fl_RX5_33 rfl g_o4 ?_
      refine j_aload C dX5_firstAlike_32 (hl.at 0 rfl) ?_
      obtain ⟨v5, g_v5, h⟩ := bd h
      refine j_gI C dX5_firstAlike_34 fl_RX5_53 (Or.inl rfl) g_v5 (fun hv5 => ?_)
      obtain ⟨v6, g_v6, h⟩ := bd h
      refine j_iald C dX5_firstAlike_37 hv5 g_v6 (fun hv6 => ?_)
      refine j_aload C dX5_firstAlike_38 (hl.at 0 rfl) ?_
      obtain ⟨v7, g_v7, h⟩ := bd h
      refine j_gI C dX5_firstAlike_40 fl_RX5_53 (Or.inl rfl) g_v7 (fun hv7 => ?_)
      refine j_icmp_ne (tgt := 59) C dX5_firstAlike_43 (by decide) hv6 hv7 (fun b1 => ?_) (fun b1 => ?_)
      · rw [if_neg b1] at h
        obtain ⟨z8, g_z8, h⟩ := bd h
        refine k_iinc (k9 := 4) (lv' := [(3, iv z8), (4, rf b o3), (0, rf b a0), (1, iv x1), (2, rf b a2)]) C dX5_firstAlike_59 hl rfl g_z8 (by decide) rfl (fun hz8 ls hl => ?_)
        refine j_goto (tgt := 12) C dX5_firstAlike_62 (by decide) ?_
        exact ih _ _ _ _ _ hx1 hz8 h ls (hl.sub [2, 3, 4, 0] rfl)
      · rw [if_pos (Decidable.byContradiction b1)] at h
        refine j_aload_n C dX5_firstAlike_46 rfl (hl.at 1 rfl) ?_
        refine j_aload_n C dX5_firstAlike_47 rfl (hl.at 3 rfl) ?_
        refine j_aload C dX5_firstAlike_48 (hl.at 0 rfl) ?_
        obtain ⟨c11, h⟩ := gd_some h
        rcases cI_some h with ⟨S9, v10, wv10, hc, h⟩ | ⟨hc, hne⟩
        · refine j_callI C (run_W (As := [rf b a2, rf b o3]) (rest := []) C (m_X5_isSame hst hc) cv_RX5_270 (by decide) rfl c11 rfl hl (by decide) (by decide) (by decide) dX5_firstAlike_50) (fun hv10 => ?_)
          refine j_if_eq (tgt := 59) C dX5_firstAlike_53 (by decide) hv10 (fun b1 => ?_) (fun b1 => ?_)
          · rw [if_pos b1] at h
            obtain ⟨z12, g_z12, h⟩ := bd h
            refine k_iinc (k9 := 4) (lv' := [(3, iv z12), (4, rf b o3), (0, rf b a0), (1, iv x1), (2, rf b a2)]) C dX5_firstAlike_59 hl rfl g_z12 (by decide) rfl (fun hz12 ls hl => ?_)
            refine j_goto (tgt := 12) C dX5_firstAlike_62 (by decide) ?_
            exact ih _ _ _ _ _ hx1 hz12 h ls (hl.sub [2, 3, 4, 0] rfl)
          · rw [if_neg b1] at h
            refine j_aload C dX5_firstAlike_56 (hl.at 0 rfl) ?_
            exact j_aret C dX5_firstAlike_58 hr rfl h
        · exact j_thrown C hT (run_W (As := [rf b a2, rf b o3]) (rest := []) C (m_X5_isSame hst hc) cv_RX5_270 (by decide) rfl c11 rfl hl (by decide) (by decide) (by decide) dX5_firstAlike_50) hne
noncomputable def f_X5_firstAlike (a0 : Option Nat) (x1 : Int) (S : AS) : Option RS :=
  (gR S a0 6 2).bind fun o1 =>
  (gR S o1 3 0).bind fun o2 =>
  (aR S o2 11 x1).bind fun o3 =>
  f_X5_firstAlike_12 FU a0 x1 o3 0 S
set_option maxHeartbeats 4000000 in
set_option maxRecDepth 100000 in
theorem m_X5_firstAlike {l : Launch} {b : Nat} {D : va_G} {dA : Nat → ClassId} (hst : l.stackTraces = false) {a0 : Option Nat} {x1 : Int} {S : AS} {q : RS} (hx1 : inR x1) (h : f_X5_firstAlike a0 x1 S = some q) : hp_M l b D dA yX5_firstAlike cX5_firstAlike 5 (some (.object "DesignTrees$Shell")) 9 85 [rf b a0, iv x1] S 2 q := by
  have hcat : ∀ v ∈ ([rf b a0, iv x1] : List Value), v.category = 1 := (by intro v hv; simp only [List.mem_cons, List.not_mem_nil, or_false] at hv; rcases hv with rfl | rfl <;> first | exact cat_iv _ | exact cat_rf _ _)
  refine hp_ofJ (own := RX5) hst (by decide +kernel) rfl hcat (Nat.le_of_ble_eq_true rfl) ?_
  intro p e R s m args below meth c C hT hnm hr ls hl9
  have hl : hp_L ls 5 [(0, rf b a0), (1, iv x1)] := hp_L.of hl9 hcat
  unfold f_X5_firstAlike at h
  refine j_aload_n C dX5_firstAlike_0 rfl (hl.at 0 rfl) ?_
  obtain ⟨o1, g_o1, h⟩ := bd h
  refine j_gR C dX5_firstAlike_1 fl_RX5_22 rfl g_o1 ?_
  obtain ⟨o2, g_o2, h⟩ := bd h
  refine j_gR C dX5_firstAlike_4 fl_RX5_242 rfl g_o2 ?_
  refine j_iload_n C dX5_firstAlike_7 rfl (hl.at 1 rfl) ?_
  obtain ⟨o3, g_o3, h⟩ := bd h
  refine j_aald C dX5_firstAlike_8 (by decide) hx1 g_o3 ?_
  refine k_astore_n (lv' := [(2, rf b o3), (0, rf b a0), (1, iv x1)]) C dX5_firstAlike_9 rfl hl (by decide) rfl (fun ls hl => ?_)
  refine j_iconst C dX5_firstAlike_10 ?_
  refine k_istore_n (lv' := [(3, iv 0), (2, rf b o3), (0, rf b a0), (1, iv x1)]) C dX5_firstAlike_11 rfl hl (by decide) rfl (fun ls hl => ?_)
  exact w_X5_firstAlike_12 C hT hnm hr FU _ _ _ _ _ hx1 (by decide) h ls (hl.sub [2, 3, 1, 0] rfl)
noncomputable def f_X5_sortIntoKinds_4 (n : Nat) (a0 : Option Nat) (x1 : Int) (x2 : Int) (S : AS) : Option RS := match n with
  | 0 => none
  | n + 1 =>
    (gR S a0 6 2).bind fun o1 =>
    (gI S o1 3 2).bind fun v2 =>
    if v2 ≤ x2 then
      rI x1 S
    else
      (gR S a0 6 2).bind fun o3 =>
      (gR S o3 3 0).bind fun o4 =>
      (aR S o4 11 x2).bind fun o5 =>
      gd (isK S a0 6) <|
      cR (f_X5_firstAlike a0 x2 S) fun o7 S6 =>
      (gR S6 a0 6 4).bind fun o9 =>
      (gI S6 o5 5 0).bind fun v10 =>
      (gI S6 o7 5 0).bind fun v11 =>
      (sI S6 o9 8 v10 v11).bind fun S12 =>
      if o7 = o5 then
        (chk (x1 + 1)).bind fun z14 =>
        (chk (x2 + 1)).bind fun z15 =>
        f_X5_sortIntoKinds_4 n a0 z14 z15 S12
      else
        (chk (x2 + 1)).bind fun z13 =>
        f_X5_sortIntoKinds_4 n a0 x1 z13 S12
set_option maxHeartbeats 4000000 in
set_option maxRecDepth 100000 in
theorem w_X5_sortIntoKinds_4 {p : Program} {l : Launch} {e : Env} {R : Room} {s : State} {m : MethodId} {args : Array Value} {below : List Frame} {meth : Method} {c : Code} {b : Nat} {D : va_G} {dA : Nat → ClassId} {S0 : AS} {q : RS} (C : hp_C p l e R s m args below meth c b D dA S0 RX5 cX5_sortIntoKinds 5 10 109) (hT : ∀ x ∈ c.exceptionTable.toList, False) (hnm : meth.name = "sortIntoKinds") (hr : meth.sig.returnType = (some .int)) : ∀ (n : Nat), ∀ (a0 : Option Nat) (x1 : Int) (x2 : Int) (S : AS), inR x1 → inR x2 → f_X5_sortIntoKinds_4 n a0 x1 x2 S = some q → ∀ ls : Array Slot, hp_L ls 5 [(0, rf b a0), (1, iv x1), (2, iv x2)] → hp_J p l e R s m args below meth c b D dA S0 (hp_Q below b D dA S0 1 q args s) S 4 ls [] := by
  have hst : l.stackTraces = false := C.2.2.2.2.2.2.2.2.2.2.1
  intro n
  induction n with
  | zero =>
    intro a0 x1 x2 S hx1 hx2 h
    cases h
  | succ n ih =>
    intro a0 x1 x2 S hx1 hx2 h ls hl
    unfold f_X5_sortIntoKinds_4 at h
    refine j_iload_n C dX5_sortIntoKinds_4 rfl (hl.at 2 rfl) ?_
    refine j_aload_n C dX5_sortIntoKinds_5 rfl (hl.at 0 rfl) ?_
    obtain ⟨o1, g_o1, h⟩ := bd h
    refine j_gR C dX5_sortIntoKinds_6 fl_RX5_22 rfl g_o1 ?_
    obtain ⟨v2, g_v2, h⟩ := bd h
    refine j_gI C dX5_sortIntoKinds_9 fl_RX5_239 (Or.inl rfl) g_v2 (fun hv2 => ?_)
    refine j_icmp_ge (tgt := 61) C dX5_sortIntoKinds_12 (by decide) hx2 hv2 (fun b1 => ?_) (fun b1 => ?_)
    · rw [if_pos b1] at h
      refine j_iload_n C dX5_sortIntoKinds_61 rfl (hl.at 1 rfl) ?_
      exact j_iret C dX5_sortIntoKinds_62 hr hx1 h
    · rw [if_neg b1] at h
      refine j_aload_n C dX5_sortIntoKinds_15 rfl (hl.at 0 rfl) ?_
      obtain ⟨o3, g_o3, h⟩ := bd h
      refine j_gR C dX5_sortIntoKinds_16 fl_RX5_22 rfl g_o3 ?_
      obtain ⟨o4, g_o4, h⟩ := bd h
      refine j_gR C dX5_sortIntoKinds_19 fl_RX5_242 rfl g_o4 ?_
      refine j_iload_n C dX5_sortIntoKinds_22 rfl (hl.at 2 rfl) ?_
      obtain ⟨o5, g_o5, h⟩ := bd h
      refine j_aald C dX5_sortIntoKinds_23 (by decide) hx2 g_o5 ?_
      refine k_astore_n (lv' := [(3, rf b o5), (0, rf b a0), (1, iv x1), (2, iv x2)]) C dX5_sortIntoKinds_24 rfl hl (by decide) rfl (fun ls hl => ?_)
      refine j_aload_n C dX5_sortIntoKinds_25 rfl (hl.at 1 rfl) ?_
      refine j_iload_n C dX5_sortIntoKinds_26 rfl (hl.at 3 rfl) ?_
      obtain ⟨c8, h⟩ := gd_some h
      rcases cR_some h with ⟨S6, wo7, o7, hc, h⟩ | ⟨hc, hne⟩
      · refine j_callR C (run_W (As := [iv x2]) (rest := []) C (m_X5_firstAlike hst hx2 hc) cv_RX5_267 (by decide) rfl c8 rfl hl (by decide) (by decide) (by decide) dX5_sortIntoKinds_27) ?_
        refine k_astore (lv' := [(4, rf b o7), (3, rf b o5), (0, rf b a0), (1, iv x1), (2, iv x2)]) C dX5_sortIntoKinds_30 hl (by decide) rfl (fun ls hl => ?_)
        refine j_aload_n C dX5_sortIntoKinds_32 rfl (hl.at 2 rfl) ?_
        obtain ⟨o9, g_o9, h⟩ := bd h
        refine j_gR C dX5_sortIntoKinds_33 fl_RX5_33 rfl g_o9 ?_
        refine j_aload_n C dX5_sortIntoKinds_36 rfl (hl.at 1 rfl) ?_
        obtain ⟨v10, g_v10, h⟩ := bd h
        refine j_gI C dX5_sortIntoKinds_37 fl_RX5_53 (Or.inl rfl) g_v10 (fun hv10 => ?_)
        refine j_aload C dX5_sortIntoKinds_40 (hl.at 0 rfl) ?_
        obtain ⟨v11, g_v11, h⟩ := bd h
        refine j_gI C dX5_sortIntoKinds_42 fl_RX5_53 (Or.inl rfl) g_v11 (fun hv11 => ?_)
        obtain ⟨S12, g_S12, h⟩ := bd h
        refine j_iast C dX5_sortIntoKinds_45 hv10 hv11 g_S12 ?_
        refine j_aload C dX5_sortIntoKinds_46 (hl.at 0 rfl) ?_
        refine j_aload_n C dX5_sortIntoKinds_48 rfl (hl.at 1 rfl) ?_
        refine j_acmp_ne (tgt := 55) C dX5_sortIntoKinds_49 (by decide) (fun b1 => ?_) (fun b1 => ?_)
        · rw [if_neg b1] at h
          obtain ⟨z13, g_z13, h⟩ := bd h
          refine k_iinc (k9 := 4) (lv' := [(2, iv z13), (4, rf b o7), (3, rf b o5), (0, rf b a0), (1, iv x1)]) C dX5_sortIntoKinds_55 hl rfl g_z13 (by decide) rfl (fun hz13 ls hl => ?_)
          refine j_goto (tgt := 4) C dX5_sortIntoKinds_58 (by decide) ?_
          exact ih _ _ _ _ hx1 hz13 h ls (hl.sub [3, 4, 0] rfl)
        · rw [if_pos (Decidable.byContradiction b1)] at h
          obtain ⟨z14, g_z14, h⟩ := bd h
          refine k_iinc (k9 := 3) (lv' := [(1, iv z14), (4, rf b o7), (3, rf b o5), (0, rf b a0), (2, iv x2)]) C dX5_sortIntoKinds_52 hl rfl g_z14 (by decide) rfl (fun hz14 ls hl => ?_)
          obtain ⟨z15, g_z15, h⟩ := bd h
          refine k_iinc (k9 := 4) (lv' := [(2, iv z15), (1, iv z14), (4, rf b o7), (3, rf b o5), (0, rf b a0)]) C dX5_sortIntoKinds_55 hl rfl g_z15 (by decide) rfl (fun hz15 ls hl => ?_)
          refine j_goto (tgt := 4) C dX5_sortIntoKinds_58 (by decide) ?_
          exact ih _ _ _ _ hz14 hz15 h ls (hl.sub [4, 1, 0] rfl)
      · exact j_thrown C hT (run_W (As := [iv x2]) (rest := []) C (m_X5_firstAlike hst hx2 hc) cv_RX5_267 (by decide) rfl c8 rfl hl (by decide) (by decide) (by decide) dX5_sortIntoKinds_27) hne
noncomputable def f_X5_sortIntoKinds (a0 : Option Nat) (S : AS) : Option RS :=
  f_X5_sortIntoKinds_4 FU a0 0 0 S
set_option maxHeartbeats 4000000 in
set_option maxRecDepth 100000 in
theorem m_X5_sortIntoKinds {l : Launch} {b : Nat} {D : va_G} {dA : Nat → ClassId} (hst : l.stackTraces = false) {a0 : Option Nat} {S : AS} {q : RS} (h : f_X5_sortIntoKinds a0 S = some q) : hp_M l b D dA yX5_sortIntoKinds cX5_sortIntoKinds 5 (some .int) 10 109 [rf b a0] S 1 q := by
  have hcat : ∀ v ∈ ([rf b a0] : List Value), v.category = 1 := (by intro v hv; simp only [List.mem_cons, List.not_mem_nil, or_false] at hv; rcases hv with rfl <;> first | exact cat_iv _ | exact cat_rf _ _)
  refine hp_ofJ (own := RX5) hst (by decide +kernel) rfl hcat (Nat.le_of_ble_eq_true rfl) ?_
  intro p e R s m args below meth c C hT hnm hr ls hl9
  have hl : hp_L ls 5 [(0, rf b a0)] := hp_L.of hl9 hcat
  unfold f_X5_sortIntoKinds at h
  refine j_iconst C dX5_sortIntoKinds_0 ?_
  refine k_istore_n (lv' := [(1, iv 0), (0, rf b a0)]) C dX5_sortIntoKinds_1 rfl hl (by decide) rfl (fun ls hl => ?_)
  refine j_iconst C dX5_sortIntoKinds_2 ?_
  refine k_istore_n (lv' := [(2, iv 0), (1, iv 0), (0, rf b a0)]) C dX5_sortIntoKinds_3 rfl hl (by decide) rfl (fun ls hl => ?_)
  exact w_X5_sortIntoKinds_4 C hT hnm hr FU _ _ _ _ (by decide) (by decide) h ls (hl.sub [2, 1, 0] rfl)
