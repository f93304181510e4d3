noncomputable def f_L_law_1295 (L : Nat) (xs : Nat → Int32) (k23 : Option Nat → Option Nat → Option Nat → Int → AS → Option RS) (a1 : Option Nat) (a2 : Option Nat) (a3 : Option Nat) (x4 : Int) (t0 : Int) (t1 : Int) (S : AS) : Option RS :=
  if (cmpI t1 t0) = 0 then
    (chk (x4 + 5)).bind fun z1 =>
    k23 a1 a2 a3 z1 S
  else
    rI 0 S
set_option maxHeartbeats 4000000 in
set_option maxRecDepth 100000 in
theorem w_L_law_1295 {p : Program} {l : Launch} {e : Env} {R : Room} {s : State} {m : MethodId} {args : Array Value} {below : List Frame} {meth : Method} {c : Code} {b : Nat} {D : va_G} {dA : Nat → ClassId} {S0 : AS} {q : RS} {Q : State → Prop} {bs L : Nat} {xs : Nat → Int32} (C : hp_C p l e R s m args below meth c b D dA S0 RL cL_law 7 2048 84000) (hN : hp_N s) (hX : va_X bs L xs s s.heap) (hbs : bs < b) (hL : L ≤ 2560) (hq1 : q.1 = (0, 1, none)) (hend : ∀ (S : AS) (pc : Nat) (ls : Array Slot), decode cL_law pc = .ok (.ireturn, 1) → hp_J p l e R s m args below meth c b D dA S0 Q S pc ls [iv 1]) {k23 : Option Nat → Option Nat → Option Nat → Int → AS → Option RS} (hk23 : ∀ (a1 : Option Nat) (a2 : Option Nat) (a3 : Option Nat) (x4 : Int) (S : AS), inR x4 → k23 a1 a2 a3 x4 S = some q → ∀ ls : Array Slot, hp_L ls 7 [(0, .ref bs), (1, rf b a1), (2, rf b a2), (3, rf b a3), (4, iv x4)] → hp_J p l e R s m args below meth c b D dA S0 Q S 23 ls []) : ∀ (a1 : Option Nat) (a2 : Option Nat) (a3 : Option Nat) (x4 : Int) (t0 : Int) (t1 : Int) (S : AS), inR x4 → inR t0 → inR t1 → f_L_law_1295 L xs k23 a1 a2 a3 x4 t0 t1 S = some q → ∀ ls : Array Slot, hp_L ls 7 [(0, .ref bs), (1, rf b a1), (2, rf b a2), (3, rf b a3), (4, iv x4)] → hp_J p l e R s m args below meth c b D dA S0 Q S 1295 ls [lvv t0, lvv t1] := by
  have hst : l.stackTraces = false := C.2.2.2.2.2.2.2.2.2.2.1
  intro a1 a2 a3 x4 t0 t1 S hx4 ht0 ht1 h ls hl
  unfold f_L_law_1295 at h
  refine j_lcmp C dL_law_1295 ht1 ht0 ?_
  refine j_if_eq (tgt := 1301) C dL_law_1296 (by decide) (cmpI_inR _ _) (fun b1 => ?_) (fun b1 => ?_)
  · rw [if_pos b1] at h
    refine j_goto (tgt := 1477) C dL_law_1301 (by decide) ?_
    obtain ⟨z1, g_z1, h⟩ := bd h
    refine k_iinc (k9 := 4) (lv' := [(4, iv z1), (0, .ref bs), (1, rf b a1), (2, rf b a2), (3, rf b a3)]) C dL_law_1477 hl rfl g_z1 (by decide) rfl (fun hz1 ls hl => ?_)
    refine j_goto (tgt := 23) C dL_law_1480 (by decide) ?_
    exact hk23 _ _ _ _ _ hz1 h ls (hl.sub [1, 2, 3, 4, 0] rfl)
  · rw [if_neg b1] at h
    refine j_iconst C dL_law_1299 ?_
    cases h
    exact absurd hq1 (by simp)
noncomputable def f_L_law_948 (L : Nat) (xs : Nat → Int32) (k23 : Option Nat → Option Nat → Option Nat → Int → AS → Option RS) (a1 : Option Nat) (a2 : Option Nat) (a3 : Option Nat) (x4 : Int) (t0 : Int) (t1 : Int) (S : AS) : Option RS :=
  if (cmpI t1 t0) = 0 then
    (chk (x4 + 5)).bind fun z1 =>
    k23 a1 a2 a3 z1 S
  else
    rI 0 S
set_option maxHeartbeats 4000000 in
set_option maxRecDepth 100000 in
theorem w_L_law_948 {p : Program} {l : Launch} {e : Env} {R : Room} {s : State} {m : MethodId} {args : Array Value} {below : List Frame} {meth : Method} {c : Code} {b : Nat} {D : va_G} {dA : Nat → ClassId} {S0 : AS} {q : RS} {Q : State → Prop} {bs L : Nat} {xs : Nat → Int32} (C : hp_C p l e R s m args below meth c b D dA S0 RL cL_law 7 2048 84000) (hN : hp_N s) (hX : va_X bs L xs s s.heap) (hbs : bs < b) (hL : L ≤ 2560) (hq1 : q.1 = (0, 1, none)) (hend : ∀ (S : AS) (pc : Nat) (ls : Array Slot), decode cL_law pc = .ok (.ireturn, 1) → hp_J p l e R s m args below meth c b D dA S0 Q S pc ls [iv 1]) {k23 : Option Nat → Option Nat → Option Nat → Int → AS → Option RS} (hk23 : ∀ (a1 : Option Nat) (a2 : Option Nat) (a3 : Option Nat) (x4 : Int) (S : AS), inR x4 → k23 a1 a2 a3 x4 S = some q → ∀ ls : Array Slot, hp_L ls 7 [(0, .ref bs), (1, rf b a1), (2, rf b a2), (3, rf b a3), (4, iv x4)] → hp_J p l e R s m args below meth c b D dA S0 Q S 23 ls []) : ∀ (a1 : Option Nat) (a2 : Option Nat) (a3 : Option Nat) (x4 : Int) (t0 : Int) (t1 : Int) (S : AS), inR x4 → inR t0 → inR t1 → f_L_law_948 L xs k23 a1 a2 a3 x4 t0 t1 S = some q → ∀ ls : Array Slot, hp_L ls 7 [(0, .ref bs), (1, rf b a1), (2, rf b a2), (3, rf b a3), (4, iv x4)] → hp_J p l e R s m args below meth c b D dA S0 Q S 948 ls [lvv t0, lvv t1] := by
  have hst : l.stackTraces = false := C.2.2.2.2.2.2.2.2.2.2.1
  intro a1 a2 a3 x4 t0 t1 S hx4 ht0 ht1 h ls hl
  unfold f_L_law_948 at h
  refine j_lcmp C dL_law_948 ht1 ht0 ?_
  refine j_if_eq (tgt := 954) C dL_law_949 (by decide) (cmpI_inR _ _) (fun b1 => ?_) (fun b1 => ?_)
  · rw [if_pos b1] at h
    refine j_goto (tgt := 1477) C dL_law_954 (by decide) ?_
    obtain ⟨z1, g_z1, h⟩ := bd h
    refine k_iinc (k9 := 4) (lv' := [(4, iv z1), (0, .ref bs), (1, rf b a1), (2, rf b a2), (3, rf b a3)]) C dL_law_1477 hl rfl g_z1 (by decide) rfl (fun hz1 ls hl => ?_)
    refine j_goto (tgt := 23) C dL_law_1480 (by decide) ?_
    exact hk23 _ _ _ _ _ hz1 h ls (hl.sub [1, 2, 3, 4, 0] rfl)
  · rw [if_neg b1] at h
    refine j_iconst C dL_law_952 ?_
    cases h
    exact absurd hq1 (by simp)
noncomputable def f_L_law_577 (L : Nat) (xs : Nat → Int32) (k23 : Option Nat → Option Nat → Option Nat → Int → AS → Option RS) (a1 : Option Nat) (a2 : Option Nat) (a3 : Option Nat) (x4 : Int) (t0 : Int) (t1 : Int) (S : AS) : Option RS :=
  if (cmpI t1 t0) = 0 then
    (chk (x4 + 5)).bind fun z1 =>
    k23 a1 a2 a3 z1 S
  else
    rI 0 S
set_option maxHeartbeats 4000000 in
set_option maxRecDepth 100000 in
theorem w_L_law_577 {p : Program} {l : Launch} {e : Env} {R : Room} {s : State} {m : MethodId} {args : Array Value} {below : List Frame} {meth : Method} {c : Code} {b : Nat} {D : va_G} {dA : Nat → ClassId} {S0 : AS} {q : RS} {Q : State → Prop} {bs L : Nat} {xs : Nat → Int32} (C : hp_C p l e R s m args below meth c b D dA S0 RL cL_law 7 2048 84000) (hN : hp_N s) (hX : va_X bs L xs s s.heap) (hbs : bs < b) (hL : L ≤ 2560) (hq1 : q.1 = (0, 1, none)) (hend : ∀ (S : AS) (pc : Nat) (ls : Array Slot), decode cL_law pc = .ok (.ireturn, 1) → hp_J p l e R s m args below meth c b D dA S0 Q S pc ls [iv 1]) {k23 : Option Nat → Option Nat → Option Nat → Int → AS → Option RS} (hk23 : ∀ (a1 : Option Nat) (a2 : Option Nat) (a3 : Option Nat) (x4 : Int) (S : AS), inR x4 → k23 a1 a2 a3 x4 S = some q → ∀ ls : Array Slot, hp_L ls 7 [(0, .ref bs), (1, rf b a1), (2, rf b a2), (3, rf b a3), (4, iv x4)] → hp_J p l e R s m args below meth c b D dA S0 Q S 23 ls []) : ∀ (a1 : Option Nat) (a2 : Option Nat) (a3 : Option Nat) (x4 : Int) (t0 : Int) (t1 : Int) (S : AS), inR x4 → inR t0 → inR t1 → f_L_law_577 L xs k23 a1 a2 a3 x4 t0 t1 S = some q → ∀ ls : Array Slot, hp_L ls 7 [(0, .ref bs), (1, rf b a1), (2, rf b a2), (3, rf b a3), (4, iv x4)] → hp_J p l e R s m args below meth c b D dA S0 Q S 577 ls [lvv t0, lvv t1] := by
  have hst : l.stackTraces = false := C.2.2.2.2.2.2.2.2.2.2.1
  intro a1 a2 a3 x4 t0 t1 S hx4 ht0 ht1 h ls hl
  unfold f_L_law_577 at h
  refine j_lcmp C dL_law_577 ht1 ht0 ?_
  refine j_if_eq (tgt := 583) C dL_law_578 (by decide) (cmpI_inR _ _) (fun b1 => ?_) (fun b1 => ?_)
  · rw [if_pos b1] at h
    refine j_goto (tgt := 1477) C dL_law_583 (by decide) ?_
    obtain ⟨z1, g_z1, h⟩ := bd h
    refine k_iinc (k9 := 4) (lv' := [(4, iv z1), (0, .ref bs), (1, rf b a1), (2, rf b a2), (3, rf b a3)]) C dL_law_1477 hl rfl g_z1 (by decide) rfl (fun hz1 ls hl => ?_)
    refine j_goto (tgt := 23) C dL_law_1480 (by decide) ?_
    exact hk23 _ _ _ _ _ hz1 h ls (hl.sub [1, 2, 3, 4, 0] rfl)
  · rw [if_neg b1] at h
    refine j_iconst C dL_law_581 ?_
    cases h
    exact absurd hq1 (by simp)
noncomputable def f_L_law_490 (L : Nat) (xs : Nat → Int32) (k23 : Option Nat → Option Nat → Option Nat → Int → AS → Option RS) (a1 : Option Nat) (a2 : Option Nat) (a3 : Option Nat) (x4 : Int) (t0 : Int) (t1 : Int) (S : AS) : Option RS :=
  if (cmpI t1 t0) = 0 then
    (chk (x4 + 5)).bind fun z1 =>
    k23 a1 a2 a3 z1 S
  else
    rI 0 S
set_option maxHeartbeats 4000000 in
set_option maxRecDepth 100000 in
theorem w_L_law_490 {p : Program} {l : Launch} {e : Env} {R : Room} {s : State} {m : MethodId} {args : Array Value} {below : List Frame} {meth : Method} {c : Code} {b : Nat} {D : va_G} {dA : Nat → ClassId} {S0 : AS} {q : RS} {Q : State → Prop} {bs L : Nat} {xs : Nat → Int32} (C : hp_C p l e R s m args below meth c b D dA S0 RL cL_law 7 2048 84000) (hN : hp_N s) (hX : va_X bs L xs s s.heap) (hbs : bs < b) (hL : L ≤ 2560) (hq1 : q.1 = (0, 1, none)) (hend : ∀ (S : AS) (pc : Nat) (ls : Array Slot), decode cL_law pc = .ok (.ireturn, 1) → hp_J p l e R s m args below meth c b D dA S0 Q S pc ls [iv 1]) {k23 : Option Nat → Option Nat → Option Nat → Int → AS → Option RS} (hk23 : ∀ (a1 : Option Nat) (a2 : Option Nat) (a3 : Option Nat) (x4 : Int) (S : AS), inR x4 → k23 a1 a2 a3 x4 S = some q → ∀ ls : Array Slot, hp_L ls 7 [(0, .ref bs), (1, rf b a1), (2, rf b a2), (3, rf b a3), (4, iv x4)] → hp_J p l e R s m args below meth c b D dA S0 Q S 23 ls []) : ∀ (a1 : Option Nat) (a2 : Option Nat) (a3 : Option Nat) (x4 : Int) (t0 : Int) (t1 : Int) (S : AS), inR x4 → inR t0 → inR t1 → f_L_law_490 L xs k23 a1 a2 a3 x4 t0 t1 S = some q → ∀ ls : Array Slot, hp_L ls 7 [(0, .ref bs), (1, rf b a1), (2, rf b a2), (3, rf b a3), (4, iv x4)] → hp_J p l e R s m args below meth c b D dA S0 Q S 490 ls [lvv t0, lvv t1] := by
  have hst : l.stackTraces = false := C.2.2.2.2.2.2.2.2.2.2.1
  intro a1 a2 a3 x4 t0 t1 S hx4 ht0 ht1 h ls hl
  unfold f_L_law_490 at h
  refine j_lcmp C dL_law_490 ht1 ht0 ?_
  refine j_if_eq (tgt := 496) C dL_law_491 (by decide) (cmpI_inR _ _) (fun b1 => ?_) (fun b1 => ?_)
  · rw [if_pos b1] at h
    refine j_goto (tgt := 1477) C dL_law_496 (by decide) ?_
    obtain ⟨z1, g_z1, h⟩ := bd h
    refine k_iinc (k9 := 4) (lv' := [(4, iv z1), (0, .ref bs), (1, rf b a1), (2, rf b a2), (3, rf b a3)]) C dL_law_1477 hl rfl g_z1 (by decide) rfl (fun hz1 ls hl => ?_)
    refine j_goto (tgt := 23) C dL_law_1480 (by decide) ?_
    exact hk23 _ _ _ _ _ hz1 h ls (hl.sub [1, 2, 3, 4, 0] rfl)
  · rw [if_neg b1] at h
    refine j_iconst C dL_law_494 ?_
    cases h
    exact absurd hq1 (by simp)
noncomputable def f_L_law_240 (L : Nat) (xs : Nat → Int32) (k23 : Option Nat → Option Nat → Option Nat → Int → AS → Option RS) (a1 : Option Nat) (a2 : Option Nat) (a3 : Option Nat) (x4 : Int) (x5 : Int) (t0 : Int) (t1 : Int) (t2 : Int) (u3 : Option Nat) (S : AS) : Option RS :=
  gd (isK S u3 7) <|
  cM (f_X6_port u3 t2 t1 t0 S) fun v2 S1 =>
  gd (isK S1 a2 7) <|
  cM (f_X6_thrown a2 S1) fun v5 S4 =>
  if v5 = x5 then
    if x5 = 0 then
      (aI S4 a3 13 0).bind fun v8 =>
      if (cmpI v8 v2) = 0 then
        (chk (x4 + 5)).bind fun z9 =>
        k23 a1 a2 a3 z9 S4
      else
        rI 0 S4
    else
      (chk (x4 + 5)).bind fun z7 =>
      k23 a1 a2 a3 z7 S4
  else
    rI 0 S4
set_option maxHeartbeats 4000000 in
set_option maxRecDepth 100000 in
theorem w_L_law_240 {p : Program} {l : Launch} {e : Env} {R : Room} {s : State} {m : MethodId} {args : Array Value} {below : List Frame} {meth : Method} {c : Code} {b : Nat} {D : va_G} {dA : Nat → ClassId} {S0 : AS} {q : RS} {Q : State → Prop} {bs L : Nat} {xs : Nat → Int32} (C : hp_C p l e R s m args below meth c b D dA S0 RL cL_law 7 2048 84000) (hN : hp_N s) (hX : va_X bs L xs s s.heap) (hbs : bs < b) (hL : L ≤ 2560) (hq1 : q.1 = (0, 1, none)) (hend : ∀ (S : AS) (pc : Nat) (ls : Array Slot), decode cL_law pc = .ok (.ireturn, 1) → hp_J p l e R s m args below meth c b D dA S0 Q S pc ls [iv 1]) {k23 : Option Nat → Option Nat → Option Nat → Int → AS → Option RS} (hk23 : ∀ (a1 : Option Nat) (a2 : Option Nat) (a3 : Option Nat) (x4 : Int) (S : AS), inR x4 → k23 a1 a2 a3 x4 S = some q → ∀ ls : Array Slot, hp_L ls 7 [(0, .ref bs), (1, rf b a1), (2, rf b a2), (3, rf b a3), (4, iv x4)] → hp_J p l e R s m args below meth c b D dA S0 Q S 23 ls []) : ∀ (a1 : Option Nat) (a2 : Option Nat) (a3 : Option Nat) (x4 : Int) (x5 : Int) (t0 : Int) (t1 : Int) (t2 : Int) (u3 : Option Nat) (S : AS), inR x4 → inR x5 → inR t0 → inR t1 → inR t2 → f_L_law_240 L xs k23 a1 a2 a3 x4 x5 t0 t1 t2 u3 S = some q → ∀ ls : Array Slot, hp_L ls 7 [(0, .ref bs), (1, rf b a1), (2, rf b a2), (3, rf b a3), (4, iv x4), (5, iv x5)] → hp_J p l e R s m args below meth c b D dA S0 Q S 240 ls [iv t0, iv t1, iv t2, rf b u3] := by
  have hst : l.stackTraces = false := C.2.2.2.2.2.2.2.2.2.2.1
  intro a1 a2 a3 x4 x5 t0 t1 t2 u3 S hx4 hx5 ht0 ht1 ht2 h ls hl
  unfold f_L_law_240 at h
  obtain ⟨c3, h⟩ := gd_some h
  obtain ⟨S1, v2, wv2, hc, h⟩ := cM_some h
  refine j_callI C (run_W (As := [iv t2, iv t1, iv t0]) (rest := []) C (m_X6_port hst ht2 ht1 ht0 hc) cv_RL_96 (by decide) rfl c3 rfl hl (by decide) (by decide) (by decide) dL_law_240) (fun hv2 => ?_)
  refine k_istore (lv' := [(6, iv v2), (0, .ref bs), (1, rf b a1), (2, rf b a2), (3, rf b a3), (4, iv x4), (5, iv x5)]) C dL_law_243 hl (by decide) rfl (fun ls hl => ?_)
  refine j_aload_n C dL_law_245 rfl (hl.at 3 rfl) ?_
  obtain ⟨c6, h⟩ := gd_some h
  obtain ⟨S4, v5, wv5, hc, h⟩ := cM_some h
  refine j_callI C (run_W (As := []) (rest := []) C (m_X6_thrown hst hc) cv_RL_90 (by decide) rfl c6 rfl hl (by decide) (by decide) (by decide) dL_law_246) (fun hv5 => ?_)
  refine j_iload C dL_law_249 (hl.at 6 rfl) ?_
  refine j_icmp_eq (tgt := 256) C dL_law_251 (by decide) hv5 hx5 (fun b1 => ?_) (fun b1 => ?_)
  · rw [if_pos b1] at h
    refine j_iload C dL_law_256 (hl.at 6 rfl) ?_
    refine j_if_ne (tgt := 273) C dL_law_258 (by decide) hx5 (fun b1 => ?_) (fun b1 => ?_)
    · rw [if_neg b1] at h
      refine j_goto (tgt := 1477) C dL_law_273 (by decide) ?_
      obtain ⟨z7, g_z7, h⟩ := bd h
      refine k_iinc (k9 := 5) (lv' := [(4, iv z7), (6, iv v2), (0, .ref bs), (1, rf b a1), (2, rf b a2), (3, rf b a3), (5, iv x5)]) C dL_law_1477 hl rfl g_z7 (by decide) rfl (fun hz7 ls hl => ?_)
      refine j_goto (tgt := 23) C dL_law_1480 (by decide) ?_
      exact hk23 _ _ _ _ _ hz7 h ls (hl.sub [2, 3, 4, 5, 0] rfl)
    · rw [if_pos (Decidable.byContradiction b1)] at h
      refine j_aload_n C dL_law_261 rfl (hl.at 4 rfl) ?_
      refine j_iconst C dL_law_262 ?_
      obtain ⟨v8, g_v8, h⟩ := bd h
      refine j_lald C dL_law_263 (by decide) g_v8 (fun hv8 => ?_)
      refine j_iload C dL_law_264 (hl.at 0 rfl) ?_
      refine j_i2l C dL_law_266 hv2 ?_
      refine j_lcmp C dL_law_267 hv8 hv2 ?_
      refine j_if_eq (tgt := 273) C dL_law_268 (by decide) (cmpI_inR _ _) (fun b1 => ?_) (fun b1 => ?_)
      · rw [if_pos b1] at h
        refine j_goto (tgt := 1477) C dL_law_273 (by decide) ?_
        obtain ⟨z9, g_z9, h⟩ := bd h
        refine k_iinc (k9 := 5) (lv' := [(4, iv z9), (6, iv v2), (0, .ref bs), (1, rf b a1), (2, rf b a2), (3, rf b a3), (5, iv x5)]) C dL_law_1477 hl rfl g_z9 (by decide) rfl (fun hz9 ls hl => ?_)
        refine j_goto (tgt := 23) C dL_law_1480 (by decide) ?_
        exact hk23 _ _ _ _ _ hz9 h ls (hl.sub [2, 3, 4, 5, 0] rfl)
      · rw [if_neg b1] at h
        refine j_iconst C dL_law_271 ?_
        cases h
        exact absurd hq1 (by simp)
  · rw [if_neg b1] at h
    refine j_iconst C dL_law_254 ?_
    cases h
    exact absurd hq1 (by simp)
noncomputable def f_L_law_207 (L : Nat) (xs : Nat → Int32) (k23 : Option Nat → Option Nat → Option Nat → Int → AS → Option RS) (a1 : Option Nat) (a2 : Option Nat) (a3 : Option Nat) (x4 : Int) (t0 : Int) (t1 : Int) (t2 : Int) (u3 : Option Nat) (S : AS) : Option RS :=
  cM (f_L_port u3 t2 t1 t0 a3 S) fun v2 S1 =>
  (chk (x4 + 1)).bind fun z3 =>
  (aS L xs z3).bind fun v4 =>
  (chk (x4 + 2)).bind fun z5 =>
  (aS L xs z5).bind fun v6 =>
  (chk (x4 + 3)).bind fun z7 =>
  (aS L xs z7).bind fun v8 =>
  if v8 = 0 then
    f_L_law_240 L xs k23 a1 a2 a3 x4 v2 0 v6 v4 a2 S1
  else
    f_L_law_240 L xs k23 a1 a2 a3 x4 v2 1 v6 v4 a2 S1
set_option maxHeartbeats 4000000 in
set_option maxRecDepth 100000 in
theorem w_L_law_207 {p : Program} {l : Launch} {e : Env} {R : Room} {s : State} {m : MethodId} {args : Array Value} {below : List Frame} {meth : Method} {c : Code} {b : Nat} {D : va_G} {dA : Nat → ClassId} {S0 : AS} {q : RS} {Q : State → Prop} {bs L : Nat} {xs : Nat → Int32} (C : hp_C p l e R s m args below meth c b D dA S0 RL cL_law 7 2048 84000) (hN : hp_N s) (hX : va_X bs L xs s s.heap) (hbs : bs < b) (hL : L ≤ 2560) (hq1 : q.1 = (0, 1, none)) (hend : ∀ (S : AS) (pc : Nat) (ls : Array Slot), decode cL_law pc = .ok (.ireturn, 1) → hp_J p l e R s m args below meth c b D dA S0 Q S pc ls [iv 1]) {k23 : Option Nat → Option Nat → Option Nat → Int → AS → Option RS} (hk23 : ∀ (a1 : Option Nat) (a2 : Option Nat) (a3 : Option Nat) (x4 : Int) (S : AS), inR x4 → k23 a1 a2 a3 x4 S = some q → ∀ ls : Array Slot, hp_L ls 7 [(0, .ref bs), (1, rf b a1), (2, rf b a2), (3, rf b a3), (4, iv x4)] → hp_J p l e R s m args below meth c b D dA S0 Q S 23 ls []) : ∀ (a1 : Option Nat) (a2 : Option Nat) (a3 : Option Nat) (x4 : Int) (t0 : Int) (t1 : Int) (t2 : Int) (u3 : Option Nat) (S : AS), inR x4 → inR t0 → inR t1 → inR t2 → f_L_law_207 L xs k23 a1 a2 a3 x4 t0 t1 t2 u3 S = some q → ∀ ls : Array Slot, hp_L ls 7 [(0, .ref bs), (1, rf b a1), (2, rf b a2), (3, rf b a3), (4, iv x4)] → hp_J p l e R s m args below meth c b D dA S0 Q S 207 ls [iv t0, iv t1, iv t2, rf b u3] := by
  have hst : l.stackTraces = false := C.2.2.2.2.2.2.2.2.2.2.1
  intro a1 a2 a3 x4 t0 t1 t2 u3 S hx4 ht0 ht1 ht2 h ls hl
  unfold f_L_law_207 at h
  refine j_aload_n C dL_law_207 rfl (hl.at 3 rfl) ?_
  obtain ⟨S1, v2, wv2, hc, h⟩ := cM_some h
  refine j_callI C (run_SW (As := [rf b u3, iv t2, iv t1, iv t0, rf b a3]) (rest := []) C hN (m_L_port hst ht2 ht1 ht0 hc) cw_RL_93 rfl hl.1.1 (by decide) (by decide) (by decide) dL_law_208) (fun hv2 => ?_)
  refine k_istore (lv' := [(5, iv v2), (0, .ref bs), (1, rf b a1), (2, rf b a2), (3, rf b a3), (4, iv x4)]) C dL_law_211 hl (by decide) rfl (fun ls hl => ?_)
  refine j_aload_n C dL_law_213 rfl (hl.at 3 rfl) ?_
  refine j_aloadS C dL_law_214 rfl (hl.at 1 rfl) ?_
  refine j_iload C dL_law_215 (hl.at 5 rfl) ?_
  refine j_iconst C dL_law_217 ?_
  obtain ⟨z3, g_z3, h⟩ := bd h
  refine j_iadd C dL_law_218 g_z3 (fun hz3 => ?_)
  obtain ⟨v4, g_v4, h⟩ := bd h
  refine j_sld C hX hbs dL_law_219 hz3 g_v4 (fun hv4 => ?_)
  refine j_aloadS C dL_law_220 rfl (hl.at 1 rfl) ?_
  refine j_iload C dL_law_221 (hl.at 5 rfl) ?_
  refine j_iconst C dL_law_223 ?_
  obtain ⟨z5, g_z5, h⟩ := bd h
  refine j_iadd C dL_law_224 g_z5 (fun hz5 => ?_)
  obtain ⟨v6, g_v6, h⟩ := bd h
  refine j_sld C hX hbs dL_law_225 hz5 g_v6 (fun hv6 => ?_)
  refine j_aloadS C dL_law_226 rfl (hl.at 1 rfl) ?_
  refine j_iload C dL_law_227 (hl.at 5 rfl) ?_
  refine j_iconst C dL_law_229 ?_
  obtain ⟨z7, g_z7, h⟩ := bd h
  refine j_iadd C dL_law_230 g_z7 (fun hz7 => ?_)
  obtain ⟨v8, g_v8, h⟩ := bd h
  refine j_sld C hX hbs dL_law_231 hz7 g_v8 (fun hv8 => ?_)
  refine j_if_eq (tgt := 239) C dL_law_232 (by decide) hv8 (fun b1 => ?_) (fun b1 => ?_)
  · rw [if_pos b1] at h
    refine j_iconst C dL_law_239 ?_
    exact w_L_law_240 C hN hX hbs hL hq1 hend hk23 _ _ _ _ _ _ _ _ _ _ hx4 hv2 (by decide) hv6 hv4 h ls (hl.sub [1, 2, 3, 4, 5, 0] rfl)
  · rw [if_neg b1] at h
    refine j_iconst C dL_law_235 ?_
    refine j_goto (tgt := 240) C dL_law_236 (by decide) ?_
    exact w_L_law_240 C hN hX hbs hL hq1 hend hk23 _ _ _ _ _ _ _ _ _ _ hx4 hv2 (by decide) hv6 hv4 h ls (hl.sub [1, 2, 3, 4, 5, 0] rfl)
noncomputable def f_L_law_23 (L : Nat) (xs : Nat → Int32) (n : Nat) (a1 : Option Nat) (a2 : Option Nat) (a3 : Option Nat) (x4 : Int) (S : AS) : Option RS := match n with
  | 0 => none
  | n + 1 =>
    (chk ((L : Int) - 5)).bind fun z2 =>
    if z2 < x4 then
      rI 1 S
    else
      (aS L xs x4).bind fun v3 =>
      if (v3 % 32) = 0 then
        cM (f_L_module a1 a3 S) fun v6 S5 =>
        gd (isK S5 a2 7) <|
        cM (f_X6_module a2 S5) fun v8 S7 =>
        gd (isK S7 a2 7) <|
        cM (f_X6_thrown a2 S7) fun v11 S10 =>
        if v11 = v6 then
          if v6 = 0 then
            (aI S10 a3 13 0).bind fun v14 =>
            if (cmpI v14 v8) = 0 then
              (chk (x4 + 5)).bind fun z15 =>
              f_L_law_23 L xs n a1 a2 a3 z15 S10
            else
              rI 0 S10
          else
            (chk (x4 + 5)).bind fun z13 =>
            f_L_law_23 L xs n a1 a2 a3 z13 S10
        else
          rI 0 S10
      else
      if (v3 % 32) = 1 then
        (chk (x4 + 1)).bind fun z16 =>
        (aS L xs z16).bind fun v17 =>
        (chk (x4 + 2)).bind fun z18 =>
        (aS L xs z18).bind fun v19 =>
        (chk (x4 + 3)).bind fun z20 =>
        (aS L xs z20).bind fun v21 =>
        if v21 = 0 then
          f_L_law_207 L xs (f_L_law_23 L xs n) a1 a2 a3 x4 0 v19 v17 a1 S
        else
          f_L_law_207 L xs (f_L_law_23 L xs n) a1 a2 a3 x4 1 v19 v17 a1 S
      else
      if (v3 % 32) = 2 then
        (chk (x4 + 1)).bind fun z22 =>
        (aS L xs z22).bind fun v23 =>
        (chk (x4 + 2)).bind fun z24 =>
        (aS L xs z24).bind fun v25 =>
        cM (f_L_instance a1 v23 v25 a3 S) fun v27 S26 =>
        (chk (x4 + 1)).bind fun z28 =>
        (aS L xs z28).bind fun v29 =>
        (chk (x4 + 2)).bind fun z30 =>
        (aS L xs z30).bind fun v31 =>
        gd (isK S26 a2 7) <|
        cM (f_X6_instance a2 v29 v31 S26) fun v33 S32 =>
        gd (isK S32 a2 7) <|
        cM (f_X6_thrown a2 S32) fun v36 S35 =>
        if v36 = v27 then
          if v27 = 0 then
            (aI S35 a3 13 0).bind fun v39 =>
            if (cmpI v39 v33) = 0 then
              (chk (x4 + 5)).bind fun z40 =>
              f_L_law_23 L xs n a1 a2 a3 z40 S35
            else
              rI 0 S35
          else
            (chk (x4 + 5)).bind fun z38 =>
            f_L_law_23 L xs n a1 a2 a3 z38 S35
        else
          rI 0 S35
      else
      if (v3 % 32) = 3 then
        (chk (x4 + 1)).bind fun z41 =>
        (aS L xs z41).bind fun v42 =>
        cM (f_L_net a1 v42 a3 S) fun v44 S43 =>
        (chk (x4 + 1)).bind fun z45 =>
        (aS L xs z45).bind fun v46 =>
        gd (isK S43 a2 7) <|
        cM (f_X6_net a2 v46 S43) fun v48 S47 =>
        gd (isK S47 a2 7) <|
        cM (f_X6_thrown a2 S47) fun v51 S50 =>
        if v51 = v44 then
          if v44 = 0 then
            (aI S50 a3 13 0).bind fun v54 =>
            if (cmpI v54 v48) = 0 then
              (chk (x4 + 5)).bind fun z55 =>
              f_L_law_23 L xs n a1 a2 a3 z55 S50
            else
              rI 0 S50
          else
            (chk (x4 + 5)).bind fun z53 =>
            f_L_law_23 L xs n a1 a2 a3 z53 S50
        else
          rI 0 S50
      else
      if (v3 % 32) = 4 then
        (chk (x4 + 1)).bind fun z56 =>
        (aS L xs z56).bind fun v57 =>
        (chk (x4 + 2)).bind fun z58 =>
        (aS L xs z58).bind fun v59 =>
        (chk (x4 + 3)).bind fun z60 =>
        (aS L xs z60).bind fun v61 =>
        (chk (x4 + 4)).bind fun z62 =>
        (aS L xs z62).bind fun v63 =>
        cM (f_L_join a1 v57 v59 v61 v63 a3 S) fun v65 S64 =>
        (chk (x4 + 1)).bind fun z66 =>
        (aS L xs z66).bind fun v67 =>
        (chk (x4 + 2)).bind fun z68 =>
        (aS L xs z68).bind fun v69 =>
        (chk (x4 + 3)).bind fun z70 =>
        (aS L xs z70).bind fun v71 =>
        (chk (x4 + 4)).bind fun z72 =>
        (aS L xs z72).bind fun v73 =>
        gd (isK S64 a2 7) <|
        cM (f_X6_join a2 v67 v69 v71 v73 S64) fun v75 S74 =>
        gd (isK S74 a2 7) <|
        cM (f_X6_thrown a2 S74) fun v78 S77 =>
        if v78 = v65 then
          if v65 = 0 then
            (aI S77 a3 13 0).bind fun v81 =>
            if v75 = 0 then
              f_L_law_490 L xs (f_L_law_23 L xs n) a1 a2 a3 x4 0 v81 S77
            else
              f_L_law_490 L xs (f_L_law_23 L xs n) a1 a2 a3 x4 1 v81 S77
          else
            (chk (x4 + 5)).bind fun z80 =>
            f_L_law_23 L xs n a1 a2 a3 z80 S77
        else
          rI 0 S77
      else
      if (v3 % 32) = 5 then
        (chk (x4 + 1)).bind fun z82 =>
        (aS L xs z82).bind fun v83 =>
        (chk (x4 + 2)).bind fun z84 =>
        (aS L xs z84).bind fun v85 =>
        (chk (x4 + 3)).bind fun z86 =>
        (aS L xs z86).bind fun v87 =>
        cM (f_L_part a1 v83 v85 v87 a3 S) fun v89 S88 =>
        (chk (x4 + 1)).bind fun z90 =>
        (aS L xs z90).bind fun v91 =>
        (chk (x4 + 2)).bind fun z92 =>
        (aS L xs z92).bind fun v93 =>
        (chk (x4 + 3)).bind fun z94 =>
        (aS L xs z94).bind fun v95 =>
        gd (isK S88 a2 7) <|
        cM (f_X6_part a2 v91 v93 v95 S88) fun v97 S96 =>
        gd (isK S96 a2 7) <|
        cM (f_X6_thrown a2 S96) fun v100 S99 =>
        if v100 = v89 then
          if v89 = 0 then
            (aI S99 a3 13 0).bind fun v103 =>
            if v97 = 0 then
              f_L_law_577 L xs (f_L_law_23 L xs n) a1 a2 a3 x4 0 v103 S99
            else
              f_L_law_577 L xs (f_L_law_23 L xs n) a1 a2 a3 x4 1 v103 S99
          else
            (chk (x4 + 5)).bind fun z102 =>
            f_L_law_23 L xs n a1 a2 a3 z102 S99
        else
          rI 0 S99
      else
      if (v3 % 32) = 6 then
        (chk (x4 + 1)).bind fun z104 =>
        (aS L xs z104).bind fun v105 =>
        (chk (x4 + 2)).bind fun z106 =>
        (aS L xs z106).bind fun v107 =>
        (chk (x4 + 3)).bind fun z108 =>
        (aS L xs z108).bind fun v109 =>
        cM (f_L_netOf a1 v105 v107 v109 a3 S) fun v111 S110 =>
        (chk (x4 + 1)).bind fun z112 =>
        (aS L xs z112).bind fun v113 =>
        (chk (x4 + 2)).bind fun z114 =>
        (aS L xs z114).bind fun v115 =>
        (chk (x4 + 3)).bind fun z116 =>
        (aS L xs z116).bind fun v117 =>
        gd (isK S110 a2 7) <|
        cM (f_X6_netOf a2 v113 v115 v117 S110) fun v119 S118 =>
        gd (isK S118 a2 7) <|
        cM (f_X6_thrown a2 S118) fun v122 S121 =>
        if v122 = v111 then
          if v111 = 0 then
            (aI S121 a3 13 0).bind fun v125 =>
            if (cmpI v125 v119) = 0 then
              (chk (x4 + 5)).bind fun z126 =>
              f_L_law_23 L xs n a1 a2 a3 z126 S121
            else
              rI 0 S121
          else
            (chk (x4 + 5)).bind fun z124 =>
            f_L_law_23 L xs n a1 a2 a3 z124 S121
        else
          rI 0 S121
      else
      if (v3 % 32) = 7 then
        (chk (x4 + 1)).bind fun z127 =>
        (aS L xs z127).bind fun v128 =>
        (chk (x4 + 2)).bind fun z129 =>
        (aS L xs z129).bind fun v130 =>
        cM (f_L_pins a1 v128 v130 a3 S) fun v132 S131 =>
        (chk (x4 + 1)).bind fun z133 =>
        (aS L xs z133).bind fun v134 =>
        (chk (x4 + 2)).bind fun z135 =>
        (aS L xs z135).bind fun v136 =>
        gd (isK S131 a2 7) <|
        cM (f_X6_pins a2 v134 v136 S131) fun v138 S137 =>
        gd (isK S137 a2 7) <|
        cM (f_X6_thrown a2 S137) fun v141 S140 =>
        if v141 = v132 then
          if v132 = 0 then
            (aI S140 a3 13 0).bind fun v144 =>
            if (cmpI v144 v138) = 0 then
              (chk (x4 + 5)).bind fun z145 =>
              f_L_law_23 L xs n a1 a2 a3 z145 S140
            else
              rI 0 S140
          else
            (chk (x4 + 5)).bind fun z143 =>
            f_L_law_23 L xs n a1 a2 a3 z143 S140
        else
          rI 0 S140
      else
      if (v3 % 32) = 8 then
        (chk (x4 + 1)).bind fun z146 =>
        (aS L xs z146).bind fun v147 =>
        (chk (x4 + 2)).bind fun z148 =>
        (aS L xs z148).bind fun v149 =>
        (chk (x4 + 3)).bind fun z150 =>
        (aS L xs z150).bind fun v151 =>
        (chk (x4 + 4)).bind fun z152 =>
        (aS L xs z152).bind fun v153 =>
        cM (f_L_pin a1 v147 v149 v151 v153 a3 S) fun v155 S154 =>
        (chk (x4 + 1)).bind fun z156 =>
        (aS L xs z156).bind fun v157 =>
        (chk (x4 + 2)).bind fun z158 =>
        (aS L xs z158).bind fun v159 =>
        (chk (x4 + 3)).bind fun z160 =>
        (aS L xs z160).bind fun v161 =>
        (chk (x4 + 4)).bind fun z162 =>
        (aS L xs z162).bind fun v163 =>
        gd (isK S154 a2 7) <|
        cM (f_X6_pin a2 v157 v159 v161 v163 S154) fun v165 S164 =>
        gd (isK S164 a2 7) <|
        cM (f_X6_thrown a2 S164) fun v168 S167 =>
        if v168 = v155 then
          if v155 = 0 then
            (aI S167 a3 13 0).bind fun v171 =>
            if (cmpI v171 v165) = 0 then
              (chk (x4 + 5)).bind fun z172 =>
              f_L_law_23 L xs n a1 a2 a3 z172 S167
            else
              rI 0 S167
          else
            (chk (x4 + 5)).bind fun z170 =>
            f_L_law_23 L xs n a1 a2 a3 z170 S167
        else
          rI 0 S167
      else
      if (v3 % 32) = 9 then
        (chk (x4 + 1)).bind fun z173 =>
        (aS L xs z173).bind fun v174 =>
        cM (f_L_copy a1 v174 a3 S) fun v176 S175 =>
        (chk (x4 + 1)).bind fun z177 =>
        (aS L xs z177).bind fun v178 =>
        gd (isK S175 a2 7) <|
        cM (f_X6_copy a2 v178 S175) fun v180 S179 =>
        gd (isK S179 a2 7) <|
        cM (f_X6_thrown a2 S179) fun v183 S182 =>
        if v183 = v176 then
          if v176 = 0 then
            (aI S182 a3 13 0).bind fun v186 =>
            if (cmpI v186 v180) = 0 then
              (chk (x4 + 5)).bind fun z187 =>
              f_L_law_23 L xs n a1 a2 a3 z187 S182
            else
              rI 0 S182
          else
            (chk (x4 + 5)).bind fun z185 =>
            f_L_law_23 L xs n a1 a2 a3 z185 S182
        else
          rI 0 S182
      else
      if (v3 % 32) = 10 then
        (chk (x4 + 1)).bind fun z188 =>
        (aS L xs z188).bind fun v189 =>
        (chk (x4 + 2)).bind fun z190 =>
        (aS L xs z190).bind fun v191 =>
        cM (f_L_shared a1 v189 v191 a3 S) fun v193 S192 =>
        (chk (x4 + 1)).bind fun z194 =>
        (aS L xs z194).bind fun v195 =>
        (chk (x4 + 2)).bind fun z196 =>
        (aS L xs z196).bind fun v197 =>
        gd (isK S192 a2 7) <|
        cM (f_X6_shared a2 v195 v197 S192) fun v199 S198 =>
        gd (isK S198 a2 7) <|
        cM (f_X6_thrown a2 S198) fun v202 S201 =>
        if v202 = v193 then
          if v193 = 0 then
            (aI S201 a3 13 0).bind fun v205 =>
            if v199 = 0 then
              f_L_law_948 L xs (f_L_law_23 L xs n) a1 a2 a3 x4 0 v205 S201
            else
              f_L_law_948 L xs (f_L_law_23 L xs n) a1 a2 a3 x4 1 v205 S201
          else
            (chk (x4 + 5)).bind fun z204 =>
            f_L_law_23 L xs n a1 a2 a3 z204 S201
        else
          rI 0 S201
      else
      if (v3 % 32) = 11 then
        (chk (x4 + 1)).bind fun z206 =>
        (aS L xs z206).bind fun v207 =>
        cM (f_L_flat a1 v207 a3 S) fun v209 S208 =>
        (chk (x4 + 1)).bind fun z210 =>
        (aS L xs z210).bind fun v211 =>
        gd (isK S208 a2 7) <|
        cM (f_X6_flat a2 v211 S208) fun v213 S212 =>
        gd (isK S212 a2 7) <|
        cM (f_X6_thrown a2 S212) fun v216 S215 =>
        if v216 = v209 then
          if v209 = 0 then
            (aI S215 a3 13 0).bind fun v219 =>
            if (cmpI v219 v213) = 0 then
              (chk (x4 + 5)).bind fun z220 =>
              f_L_law_23 L xs n a1 a2 a3 z220 S215
            else
              rI 0 S215
          else
            (chk (x4 + 5)).bind fun z218 =>
            f_L_law_23 L xs n a1 a2 a3 z218 S215
        else
          rI 0 S215
      else
      if (v3 % 32) = 12 then
        (chk (x4 + 1)).bind fun z221 =>
        (aS L xs z221).bind fun v222 =>
        (chk (x4 + 2)).bind fun z223 =>
        (aS L xs z223).bind fun v224 =>
        (chk (x4 + 3)).bind fun z225 =>
        (aS L xs z225).bind fun v226 =>
        cM (f_L_path a1 v222 v224 v226 a3 S) fun v228 S227 =>
        (chk (x4 + 1)).bind fun z229 =>
        (aS L xs z229).bind fun v230 =>
        (chk (x4 + 2)).bind fun z231 =>
        (aS L xs z231).bind fun v232 =>
        (chk (x4 + 3)).bind fun z233 =>
        (aS L xs z233).bind fun v234 =>
        gd (isK S227 a2 7) <|
        cM (f_X6_path a2 v230 v232 v234 S227) fun v236 S235 =>
        gd (isK S235 a2 7) <|
        cM (f_X6_thrown a2 S235) fun v239 S238 =>
        if v239 = v228 then
          if v228 = 0 then
            (aI S238 a3 13 0).bind fun v242 =>
            if (cmpI v242 v236) = 0 then
              (chk (x4 + 5)).bind fun z243 =>
              f_L_law_23 L xs n a1 a2 a3 z243 S238
            else
              rI 0 S238
          else
            (chk (x4 + 5)).bind fun z241 =>
            f_L_law_23 L xs n a1 a2 a3 z241 S238
        else
          rI 0 S238
      else
      if (v3 % 32) = 13 then
        (chk (x4 + 1)).bind fun z244 =>
        (aS L xs z244).bind fun v245 =>
        (chk (x4 + 2)).bind fun z246 =>
        (aS L xs z246).bind fun v247 =>
        cM (f_L_doubled a1 v245 v247 a3 S) fun v249 S248 =>
        (chk (x4 + 1)).bind fun z250 =>
        (aS L xs z250).bind fun v251 =>
        (chk (x4 + 2)).bind fun z252 =>
        (aS L xs z252).bind fun v253 =>
        gd (isK S248 a2 7) <|
        cM (f_X6_doubled a2 v251 v253 S248) fun v255 S254 =>
        gd (isK S254 a2 7) <|
        cM (f_X6_thrown a2 S254) fun v258 S257 =>
        if v258 = v249 then
          if v249 = 0 then
            (aI S257 a3 13 0).bind fun v261 =>
            if (cmpI v261 v255) = 0 then
              (chk (x4 + 5)).bind fun z262 =>
              f_L_law_23 L xs n a1 a2 a3 z262 S257
            else
              rI 0 S257
          else
            (chk (x4 + 5)).bind fun z260 =>
            f_L_law_23 L xs n a1 a2 a3 z260 S257
        else
          rI 0 S257
      else
      if (v3 % 32) = 14 then
        (chk (x4 + 1)).bind fun z263 =>
        (aS L xs z263).bind fun v264 =>
        (chk (x4 + 2)).bind fun z265 =>
        (aS L xs z265).bind fun v266 =>
        cM (f_L_open a1 v264 v266 a3 S) fun v268 S267 =>
        (chk (x4 + 1)).bind fun z269 =>
        (aS L xs z269).bind fun v270 =>
        (chk (x4 + 2)).bind fun z271 =>
        (aS L xs z271).bind fun v272 =>
        gd (isK S267 a2 7) <|
        cM (f_X6_open a2 v270 v272 S267) fun v274 S273 =>
        gd (isK S273 a2 7) <|
        cM (f_X6_thrown a2 S273) fun v277 S276 =>
        if v277 = v268 then
          if v268 = 0 then
            (aI S276 a3 13 0).bind fun v280 =>
            if (cmpI v280 v274) = 0 then
              (chk (x4 + 5)).bind fun z281 =>
              f_L_law_23 L xs n a1 a2 a3 z281 S276
            else
              rI 0 S276
          else
            (chk (x4 + 5)).bind fun z279 =>
            f_L_law_23 L xs n a1 a2 a3 z279 S276
        else
          rI 0 S276
      else
      if (v3 % 32) = 15 then
        (chk (x4 + 1)).bind fun z282 =>
        (aS L xs z282).bind fun v283 =>
        (chk (x4 + 2)).bind fun z284 =>
        (aS L xs z284).bind fun v285 =>
        cM (f_L_alike a1 v283 v285 a3 S) fun v287 S286 =>
        (chk (x4 + 1)).bind fun z288 =>
        (aS L xs z288).bind fun v289 =>
        (chk (x4 + 2)).bind fun z290 =>
        (aS L xs z290).bind fun v291 =>
        gd (isK S286 a2 7) <|
        cM (f_X6_alike a2 v289 v291 S286) fun v293 S292 =>
        gd (isK S292 a2 7) <|
        cM (f_X6_thrown a2 S292) fun v296 S295 =>
        if v296 = v287 then
          if v287 = 0 then
            (aI S295 a3 13 0).bind fun v299 =>
            if v293 = 0 then
              f_L_law_1295 L xs (f_L_law_23 L xs n) a1 a2 a3 x4 0 v299 S295
            else
              f_L_law_1295 L xs (f_L_law_23 L xs n) a1 a2 a3 x4 1 v299 S295
          else
            (chk (x4 + 5)).bind fun z298 =>
            f_L_law_23 L xs n a1 a2 a3 z298 S295
        else
          rI 0 S295
      else
      if (v3 % 32) = 16 then
        (chk (x4 + 1)).bind fun z300 =>
        (aS L xs z300).bind fun v301 =>
        (chk (x4 + 2)).bind fun z302 =>
        (aS L xs z302).bind fun v303 =>
        cM (f_L_count a1 v301 v303 a3 S) fun v305 S304 =>
        (chk (x4 + 1)).bind fun z306 =>
        (aS L xs z306).bind fun v307 =>
        (chk (x4 + 2)).bind fun z308 =>
        (aS L xs z308).bind fun v309 =>
        gd (isK S304 a2 7) <|
        cM (f_X6_count a2 v307 v309 S304) fun v311 S310 =>
        gd (isK S310 a2 7) <|
        cM (f_X6_thrown a2 S310) fun v314 S313 =>
        if v314 = v305 then
          if v305 = 0 then
            (aI S313 a3 13 0).bind fun v317 =>
            if (cmpI v317 v311) = 0 then
              (chk (x4 + 5)).bind fun z318 =>
              f_L_law_23 L xs n a1 a2 a3 z318 S313
            else
              rI 0 S313
          else
            (chk (x4 + 5)).bind fun z316 =>
            f_L_law_23 L xs n a1 a2 a3 z316 S313
        else
          rI 0 S313
      else
      if (v3 % 32) = 17 then
        (chk (x4 + 1)).bind fun z319 =>
        (aS L xs z319).bind fun v320 =>
        (chk (x4 + 2)).bind fun z321 =>
        (aS L xs z321).bind fun v322 =>
        cM (f_L_moduleOf a1 v320 v322 a3 S) fun v324 S323 =>
        (chk (x4 + 1)).bind fun z325 =>
        (aS L xs z325).bind fun v326 =>
        (chk (x4 + 2)).bind fun z327 =>
        (aS L xs z327).bind fun v328 =>
        gd (isK S323 a2 7) <|
        cM (f_X6_moduleOf a2 v326 v328 S323) fun v330 S329 =>
        gd (isK S329 a2 7) <|
        cM (f_X6_thrown a2 S329) fun v333 S332 =>
        if v333 = v324 then
          if v324 = 0 then
            (aI S332 a3 13 0).bind fun v336 =>
            if (cmpI v336 v330) = 0 then
              (chk (x4 + 5)).bind fun z337 =>
              f_L_law_23 L xs n a1 a2 a3 z337 S332
            else
              rI 0 S332
          else
            (chk (x4 + 5)).bind fun z335 =>
            f_L_law_23 L xs n a1 a2 a3 z335 S332
        else
          rI 0 S332
      else
      if (v3 % 32) = 18 then
        gd (isK S a1 6) <|
        cM (f_X5_modules a1 S) fun v339 S338 =>
        gd (isK S338 a2 7) <|
        cM (f_X6_modules a2 S338) fun v342 S341 =>
        if v339 = v342 then
          (chk (x4 + 5)).bind fun z344 =>
          f_L_law_23 L xs n a1 a2 a3 z344 S341
        else
          rI 0 S341
      else
      if (v3 % 32) = 19 then
        gd (isK S a1 6) <|
        cM (f_X5_kinds a1 S) fun v346 S345 =>
        gd (isK S345 a2 7) <|
        cM (f_X6_kinds a2 S345) fun v349 S348 =>
        if v346 = v349 then
          (chk (x4 + 5)).bind fun z351 =>
          f_L_law_23 L xs n a1 a2 a3 z351 S348
        else
          rI 0 S348
      else
      if (v3 % 32) = 20 then
        gd (isK S a1 6) <|
        cN (f_X5_clear a1 S) fun S352 =>
        gd (isK S352 a2 7) <|
        cN (f_X6_clear a2 S352) fun S355 =>
        (chk (x4 + 5)).bind fun z358 =>
        f_L_law_23 L xs n a1 a2 a3 z358 S355
      else
      (chk (x4 + 5)).bind fun z359 =>
      f_L_law_23 L xs n a1 a2 a3 z359 S
set_option maxHeartbeats 4000000 in
set_option maxRecDepth 100000 in
theorem w_L_law_23 {p : Program} {l : Launch} {e : Env} {R : Room} {s : State} {m : MethodId} {args : Array Value} {below : List Frame} {meth : Method} {c : Code} {b : Nat} {D : va_G} {dA : Nat → ClassId} {S0 : AS} {q : RS} {Q : State → Prop} {bs L : Nat} {xs : Nat → Int32} (C : hp_C p l e R s m args below meth c b D dA S0 RL cL_law 7 2048 84000) (hN : hp_N s) (hX : va_X bs L xs s s.heap) (hbs : bs < b) (hL : L ≤ 2560) (hq1 : q.1 = (0, 1, none)) (hend : ∀ (S : AS) (pc : Nat) (ls : Array Slot), decode cL_law pc = .ok (.ireturn, 1) → hp_J p l e R s m args below meth c b D dA S0 Q S pc ls [iv 1]) : ∀ (n : Nat), ∀ (a1 : Option Nat) (a2 : Option Nat) (a3 : Option Nat) (x4 : Int) (S : AS), inR x4 → f_L_law_23 L xs n a1 a2 a3 x4 S = some q → ∀ ls : Array Slot, hp_L ls 7 [(0, .ref bs), (1, rf b a1), (2, rf b a2), (3, rf b a3), (4, iv x4)] → hp_J p l e R s m args below meth c b D dA S0 Q S 23 ls [] := by
  have hst : l.stackTraces = false := C.2.2.2.2.2.2.2.2.2.2.1
  intro n
  induction n with
  | zero =>
    intro a1 a2 a3 x4 S hx4 h
    cases h
  | succ n ih =>
    intro a1 a2 a3 x4 S hx4 h ls hl
    unfold f_L_law_23 at h
    refine j_iload C dL_law_23 (hl.at 4 rfl) ?_
    refine j_aloadS C dL_law_25 rfl (hl.at 0 rfl) ?_
    refine j_slen C hX hbs hL dL_law_26 (fun hw1 => ?_)
    refine j_iconst C dL_law_27 ?_
    obtain ⟨z2, g_z2, h⟩ := bd h
    refine j_isub C dL_law_28 g_z2 (fun hz2 => ?_)
    refine j_icmp_gt (tgt := 1483) C dL_law_29 (by decide) hx4 hz2 (fun b1 => ?_) (fun b1 => ?_)
    · rw [if_pos b1] at h
      refine j_iconst C dL_law_1483 ?_
      exact hend S _ ls dL_law_1484
    · rw [if_neg b1] at h
      refine j_aloadS C dL_law_32 rfl (hl.at 0 rfl) ?_
      refine j_iload C dL_law_33 (hl.at 4 rfl) ?_
      obtain ⟨v3, g_v3, h⟩ := bd h
      refine j_sld C hX hbs dL_law_35 hx4 g_v3 (fun hv3 => ?_)
      refine j_bipush (x := 31) C dL_law_36 (by decide) ?_
      refine j_iand31 C dL_law_38 hv3 (fun hw4 => ?_)
      by_cases b0 : (v3 % 32) = 0
      · rw [if_pos b0] at h
        refine j_tabIn (tgt := 136) C dL_law_39 hw4 b0 (by decide) (by decide) rfl (by decide) ?_
        refine j_aload_n C dL_law_136 rfl (hl.at 1 rfl) ?_
        refine j_aload_n C dL_law_137 rfl (hl.at 3 rfl) ?_
        obtain ⟨S5, v6, wv6, hc, h⟩ := cM_some h
        refine j_callI C (run_SW (As := [rf b a1, rf b a3]) (rest := []) C hN (m_L_module hst hc) cw_RL_84 rfl hl.1.1 (by decide) (by decide) (by decide) dL_law_138) (fun hv6 => ?_)
        refine k_istore (lv' := [(5, iv v6), (0, .ref bs), (1, rf b a1), (2, rf b a2), (3, rf b a3), (4, iv x4)]) C dL_law_141 hl (by decide) rfl (fun ls hl => ?_)
        refine j_aload_n C dL_law_143 rfl (hl.at 3 rfl) ?_
        obtain ⟨c9, h⟩ := gd_some h
        obtain ⟨S7, v8, wv8, hc, h⟩ := cM_some h
        refine j_callI C (run_W (As := []) (rest := []) C (m_X6_module hst hc) cv_RL_89 (by decide) rfl c9 rfl hl (by decide) (by decide) (by decide) dL_law_144) (fun hv8 => ?_)
        refine k_istore (lv' := [(6, iv v8), (5, iv v6), (0, .ref bs), (1, rf b a1), (2, rf b a2), (3, rf b a3), (4, iv x4)]) C dL_law_147 hl (by decide) rfl (fun ls hl => ?_)
        refine j_aload_n C dL_law_149 rfl (hl.at 4 rfl) ?_
        obtain ⟨c12, h⟩ := gd_some h
        obtain ⟨S10, v11, wv11, hc, h⟩ := cM_some h
        refine j_callI C (run_W (As := []) (rest := []) C (m_X6_thrown hst hc) cv_RL_90 (by decide) rfl c12 rfl hl (by decide) (by decide) (by decide) dL_law_150) (fun hv11 => ?_)
        refine j_iload C dL_law_153 (hl.at 1 rfl) ?_
        refine j_icmp_eq (tgt := 160) C dL_law_155 (by decide) hv11 hv6 (fun b1 => ?_) (fun b1 => ?_)
        · rw [if_pos b1] at h
          refine j_iload C dL_law_160 (hl.at 1 rfl) ?_
          refine j_if_ne (tgt := 177) C dL_law_162 (by decide) hv6 (fun b1 => ?_) (fun b1 => ?_)
          · rw [if_neg b1] at h
            refine j_goto (tgt := 1477) C dL_law_177 (by decide) ?_
            obtain ⟨z13, g_z13, h⟩ := bd h
            refine k_iinc (k9 := 6) (lv' := [(4, iv z13), (6, iv v8), (5, iv v6), (0, .ref bs), (1, rf b a1), (2, rf b a2), (3, rf b a3)]) C dL_law_1477 hl rfl g_z13 (by decide) rfl (fun hz13 ls hl => ?_)
            refine j_goto (tgt := 23) C dL_law_1480 (by decide) ?_
            exact ih _ _ _ _ _ hz13 h ls (hl.sub [3, 4, 5, 6, 0] rfl)
          · rw [if_pos (Decidable.byContradiction b1)] at h
            refine j_aload_n C dL_law_165 rfl (hl.at 5 rfl) ?_
            refine j_iconst C dL_law_166 ?_
            obtain ⟨v14, g_v14, h⟩ := bd h
            refine j_lald C dL_law_167 (by decide) g_v14 (fun hv14 => ?_)
            refine j_iload C dL_law_168 (hl.at 0 rfl) ?_
            refine j_i2l C dL_law_170 hv8 ?_
            refine j_lcmp C dL_law_171 hv14 hv8 ?_
            refine j_if_eq (tgt := 177) C dL_law_172 (by decide) (cmpI_inR _ _) (fun b1 => ?_) (fun b1 => ?_)
            · rw [if_pos b1] at h
              refine j_goto (tgt := 1477) C dL_law_177 (by decide) ?_
              obtain ⟨z15, g_z15, h⟩ := bd h
              refine k_iinc (k9 := 6) (lv' := [(4, iv z15), (6, iv v8), (5, iv v6), (0, .ref bs), (1, rf b a1), (2, rf b a2), (3, rf b a3)]) C dL_law_1477 hl rfl g_z15 (by decide) rfl (fun hz15 ls hl => ?_)
              refine j_goto (tgt := 23) C dL_law_1480 (by decide) ?_
              exact ih _ _ _ _ _ hz15 h ls (hl.sub [3, 4, 5, 6, 0] rfl)
            · rw [if_neg b1] at h
              refine j_iconst C dL_law_175 ?_
              cases h
              exact absurd hq1 (by simp)
        · rw [if_neg b1] at h
          refine j_iconst C dL_law_158 ?_
          cases h
          exact absurd hq1 (by simp)
      rw [if_neg b0] at h
      by_cases b1 : (v3 % 32) = 1
      · rw [if_pos b1] at h
        refine j_tabIn (tgt := 180) C dL_law_39 hw4 b1 (by decide) (by decide) rfl (by decide) ?_
        refine j_aload_n C dL_law_180 rfl (hl.at 1 rfl) ?_
        refine j_aloadS C dL_law_181 rfl (hl.at 0 rfl) ?_
        refine j_iload C dL_law_182 (hl.at 4 rfl) ?_
        refine j_iconst C dL_law_184 ?_
        obtain ⟨z16, g_z16, h⟩ := bd h
        refine j_iadd C dL_law_185 g_z16 (fun hz16 => ?_)
        obtain ⟨v17, g_v17, h⟩ := bd h
        refine j_sld C hX hbs dL_law_186 hz16 g_v17 (fun hv17 => ?_)
        refine j_aloadS C dL_law_187 rfl (hl.at 0 rfl) ?_
        refine j_iload C dL_law_188 (hl.at 4 rfl) ?_
        refine j_iconst C dL_law_190 ?_
        obtain ⟨z18, g_z18, h⟩ := bd h
        refine j_iadd C dL_law_191 g_z18 (fun hz18 => ?_)
        obtain ⟨v19, g_v19, h⟩ := bd h
        refine j_sld C hX hbs dL_law_192 hz18 g_v19 (fun hv19 => ?_)
        refine j_aloadS C dL_law_193 rfl (hl.at 0 rfl) ?_
        refine j_iload C dL_law_194 (hl.at 4 rfl) ?_
        refine j_iconst C dL_law_196 ?_
        obtain ⟨z20, g_z20, h⟩ := bd h
        refine j_iadd C dL_law_197 g_z20 (fun hz20 => ?_)
        obtain ⟨v21, g_v21, h⟩ := bd h
        refine j_sld C hX hbs dL_law_198 hz20 g_v21 (fun hv21 => ?_)
        refine j_if_eq (tgt := 206) C dL_law_199 (by decide) hv21 (fun b1 => ?_) (fun b1 => ?_)
        · rw [if_pos b1] at h
          refine j_iconst C dL_law_206 ?_
          exact w_L_law_207 C hN hX hbs hL hq1 hend ih _ _ _ _ _ _ _ _ _ hx4 (by decide) hv19 hv17 h ls (hl.sub [0, 1, 2, 3, 4] rfl)
        · rw [if_neg b1] at h
          refine j_iconst C dL_law_202 ?_
          refine j_goto (tgt := 207) C dL_law_203 (by decide) ?_
          exact w_L_law_207 C hN hX hbs hL hq1 hend ih _ _ _ _ _ _ _ _ _ hx4 (by decide) hv19 hv17 h ls (hl.sub [0, 1, 2, 3, 4] rfl)
      rw [if_neg b1] at h
      by_cases b2 : (v3 % 32) = 2
      · rw [if_pos b2] at h
        refine j_tabIn (tgt := 276) C dL_law_39 hw4 b2 (by decide) (by decide) rfl (by decide) ?_
        refine j_aload_n C dL_law_276 rfl (hl.at 1 rfl) ?_
        refine j_aloadS C dL_law_277 rfl (hl.at 0 rfl) ?_
        refine j_iload C dL_law_278 (hl.at 4 rfl) ?_
        refine j_iconst C dL_law_280 ?_
        obtain ⟨z22, g_z22, h⟩ := bd h
        refine j_iadd C dL_law_281 g_z22 (fun hz22 => ?_)
        obtain ⟨v23, g_v23, h⟩ := bd h
        refine j_sld C hX hbs dL_law_282 hz22 g_v23 (fun hv23 => ?_)
        refine j_aloadS C dL_law_283 rfl (hl.at 0 rfl) ?_
        refine j_iload C dL_law_284 (hl.at 4 rfl) ?_
        refine j_iconst C dL_law_286 ?_
        obtain ⟨z24, g_z24, h⟩ := bd h
        refine j_iadd C dL_law_287 g_z24 (fun hz24 => ?_)
        obtain ⟨v25, g_v25, h⟩ := bd h
        refine j_sld C hX hbs dL_law_288 hz24 g_v25 (fun hv25 => ?_)
        refine j_aload_n C dL_law_289 rfl (hl.at 3 rfl) ?_
        obtain ⟨S26, v27, wv27, hc, h⟩ := cM_some h
        refine j_callI C (run_SW (As := [rf b a1, iv v23, iv v25, rf b a3]) (rest := []) C hN (m_L_instance hst hv23 hv25 hc) cw_RL_97 rfl hl.1.1 (by decide) (by decide) (by decide) dL_law_290) (fun hv27 => ?_)
        refine k_istore (lv' := [(5, iv v27), (0, .ref bs), (1, rf b a1), (2, rf b a2), (3, rf b a3), (4, iv x4)]) C dL_law_293 hl (by decide) rfl (fun ls hl => ?_)
        refine j_aload_n C dL_law_295 rfl (hl.at 3 rfl) ?_
        refine j_aloadS C dL_law_296 rfl (hl.at 1 rfl) ?_
        refine j_iload C dL_law_297 (hl.at 5 rfl) ?_
        refine j_iconst C dL_law_299 ?_
        obtain ⟨z28, g_z28, h⟩ := bd h
        refine j_iadd C dL_law_300 g_z28 (fun hz28 => ?_)
        obtain ⟨v29, g_v29, h⟩ := bd h
        refine j_sld C hX hbs dL_law_301 hz28 g_v29 (fun hv29 => ?_)
        refine j_aloadS C dL_law_302 rfl (hl.at 1 rfl) ?_
        refine j_iload C dL_law_303 (hl.at 5 rfl) ?_
        refine j_iconst C dL_law_305 ?_
        obtain ⟨z30, g_z30, h⟩ := bd h
        refine j_iadd C dL_law_306 g_z30 (fun hz30 => ?_)
        obtain ⟨v31, g_v31, h⟩ := bd h
        refine j_sld C hX hbs dL_law_307 hz30 g_v31 (fun hv31 => ?_)
        obtain ⟨c34, h⟩ := gd_some h
        obtain ⟨S32, v33, wv33, hc, h⟩ := cM_some h
        refine j_callI C (run_W (As := [iv v29, iv v31]) (rest := []) C (m_X6_instance hst hv29 hv31 hc) cv_RL_100 (by decide) rfl c34 rfl hl (by decide) (by decide) (by decide) dL_law_308) (fun hv33 => ?_)
        refine k_istore (lv' := [(6, iv v33), (5, iv v27), (0, .ref bs), (1, rf b a1), (2, rf b a2), (3, rf b a3), (4, iv x4)]) C dL_law_311 hl (by decide) rfl (fun ls hl => ?_)
        refine j_aload_n C dL_law_313 rfl (hl.at 4 rfl) ?_
        obtain ⟨c37, h⟩ := gd_some h
        obtain ⟨S35, v36, wv36, hc, h⟩ := cM_some h
        refine j_callI C (run_W (As := []) (rest := []) C (m_X6_thrown hst hc) cv_RL_90 (by decide) rfl c37 rfl hl (by decide) (by decide) (by decide) dL_law_314) (fun hv36 => ?_)
        refine j_iload C dL_law_317 (hl.at 1 rfl) ?_
        refine j_icmp_eq (tgt := 324) C dL_law_319 (by decide) hv36 hv27 (fun b1 => ?_) (fun b1 => ?_)
        · rw [if_pos b1] at h
          refine j_iload C dL_law_324 (hl.at 1 rfl) ?_
          refine j_if_ne (tgt := 341) C dL_law_326 (by decide) hv27 (fun b1 => ?_) (fun b1 => ?_)
          · rw [if_neg b1] at h
            refine j_goto (tgt := 1477) C dL_law_341 (by decide) ?_
            obtain ⟨z38, g_z38, h⟩ := bd h
            refine k_iinc (k9 := 6) (lv' := [(4, iv z38), (6, iv v33), (5, iv v27), (0, .ref bs), (1, rf b a1), (2, rf b a2), (3, rf b a3)]) C dL_law_1477 hl rfl g_z38 (by decide) rfl (fun hz38 ls hl => ?_)
            refine j_goto (tgt := 23) C dL_law_1480 (by decide) ?_
            exact ih _ _ _ _ _ hz38 h ls (hl.sub [3, 4, 5, 6, 0] rfl)
          · rw [if_pos (Decidable.byContradiction b1)] at h
            refine j_aload_n C dL_law_329 rfl (hl.at 5 rfl) ?_
            refine j_iconst C dL_law_330 ?_
            obtain ⟨v39, g_v39, h⟩ := bd h
            refine j_lald C dL_law_331 (by decide) g_v39 (fun hv39 => ?_)
            refine j_iload C dL_law_332 (hl.at 0 rfl) ?_
            refine j_i2l C dL_law_334 hv33 ?_
            refine j_lcmp C dL_law_335 hv39 hv33 ?_
            refine j_if_eq (tgt := 341) C dL_law_336 (by decide) (cmpI_inR _ _) (fun b1 => ?_) (fun b1 => ?_)
            · rw [if_pos b1] at h
              refine j_goto (tgt := 1477) C dL_law_341 (by decide) ?_
              obtain ⟨z40, g_z40, h⟩ := bd h
              refine k_iinc (k9 := 6) (lv' := [(4, iv z40), (6, iv v33), (5, iv v27), (0, .ref bs), (1, rf b a1), (2, rf b a2), (3, rf b a3)]) C dL_law_1477 hl rfl g_z40 (by decide) rfl (fun hz40 ls hl => ?_)
              refine j_goto (tgt := 23) C dL_law_1480 (by decide) ?_
              exact ih _ _ _ _ _ hz40 h ls (hl.sub [3, 4, 5, 6, 0] rfl)
            · rw [if_neg b1] at h
              refine j_iconst C dL_law_339 ?_
              cases h
              exact absurd hq1 (by simp)
        · rw [if_neg b1] at h
          refine j_iconst C dL_law_322 ?_
          cases h
          exact absurd hq1 (by simp)
      rw [if_neg b2] at h
      by_cases b3 : (v3 % 32) = 3
      · rw [if_pos b3] at h
        refine j_tabIn (tgt := 344) C dL_law_39 hw4 b3 (by decide) (by decide) rfl (by decide) ?_
        refine j_aload_n C dL_law_344 rfl (hl.at 1 rfl) ?_
        refine j_aloadS C dL_law_345 rfl (hl.at 0 rfl) ?_
        refine j_iload C dL_law_346 (hl.at 4 rfl) ?_
        refine j_iconst C dL_law_348 ?_
        obtain ⟨z41, g_z41, h⟩ := bd h
        refine j_iadd C dL_law_349 g_z41 (fun hz41 => ?_)
        obtain ⟨v42, g_v42, h⟩ := bd h
        refine j_sld C hX hbs dL_law_350 hz41 g_v42 (fun hv42 => ?_)
        refine j_aload_n C dL_law_351 rfl (hl.at 3 rfl) ?_
        obtain ⟨S43, v44, wv44, hc, h⟩ := cM_some h
        refine j_callI C (run_SW (As := [rf b a1, iv v42, rf b a3]) (rest := []) C hN (m_L_net hst hv42 hc) cw_RL_101 rfl hl.1.1 (by decide) (by decide) (by decide) dL_law_352) (fun hv44 => ?_)
        refine k_istore (lv' := [(5, iv v44), (0, .ref bs), (1, rf b a1), (2, rf b a2), (3, rf b a3), (4, iv x4)]) C dL_law_355 hl (by decide) rfl (fun ls hl => ?_)
        refine j_aload_n C dL_law_357 rfl (hl.at 3 rfl) ?_
        refine j_aloadS C dL_law_358 rfl (hl.at 1 rfl) ?_
        refine j_iload C dL_law_359 (hl.at 5 rfl) ?_
        refine j_iconst C dL_law_361 ?_
        obtain ⟨z45, g_z45, h⟩ := bd h
        refine j_iadd C dL_law_362 g_z45 (fun hz45 => ?_)
        obtain ⟨v46, g_v46, h⟩ := bd h
        refine j_sld C hX hbs dL_law_363 hz45 g_v46 (fun hv46 => ?_)
        obtain ⟨c49, h⟩ := gd_some h
        obtain ⟨S47, v48, wv48, hc, h⟩ := cM_some h
        refine j_callI C (run_W (As := [iv v46]) (rest := []) C (m_X6_net hst hv46 hc) cv_RL_104 (by decide) rfl c49 rfl hl (by decide) (by decide) (by decide) dL_law_364) (fun hv48 => ?_)
        refine k_istore (lv' := [(6, iv v48), (5, iv v44), (0, .ref bs), (1, rf b a1), (2, rf b a2), (3, rf b a3), (4, iv x4)]) C dL_law_367 hl (by decide) rfl (fun ls hl => ?_)
        refine j_aload_n C dL_law_369 rfl (hl.at 4 rfl) ?_
        obtain ⟨c52, h⟩ := gd_some h
        obtain ⟨S50, v51, wv51, hc, h⟩ := cM_some h
        refine j_callI C (run_W (As := []) (rest := []) C (m_X6_thrown hst hc) cv_RL_90 (by decide) rfl c52 rfl hl (by decide) (by decide) (by decide) dL_law_370) (fun hv51 => ?_)
        refine j_iload C dL_law_373 (hl.at 1 rfl) ?_
        refine j_icmp_eq (tgt := 380) C dL_law_375 (by decide) hv51 hv44 (fun b1 => ?_) (fun b1 => ?_)
        · rw [if_pos b1] at h
          refine j_iload C dL_law_380 (hl.at 1 rfl) ?_
          refine j_if_ne (tgt := 397) C dL_law_382 (by decide) hv44 (fun b1 => ?_) (fun b1 => ?_)
          · rw [if_neg b1] at h
            refine j_goto (tgt := 1477) C dL_law_397 (by decide) ?_
            obtain ⟨z53, g_z53, h⟩ := bd h
            refine k_iinc (k9 := 6) (lv' := [(4, iv z53), (6, iv v48), (5, iv v44), (0, .ref bs), (1, rf b a1), (2, rf b a2), (3, rf b a3)]) C dL_law_1477 hl rfl g_z53 (by decide) rfl (fun hz53 ls hl => ?_)
            refine j_goto (tgt := 23) C dL_law_1480 (by decide) ?_
            exact ih _ _ _ _ _ hz53 h ls (hl.sub [3, 4, 5, 6, 0] rfl)
          · rw [if_pos (Decidable.byContradiction b1)] at h
            refine j_aload_n C dL_law_385 rfl (hl.at 5 rfl) ?_
            refine j_iconst C dL_law_386 ?_
            obtain ⟨v54, g_v54, h⟩ := bd h
            refine j_lald C dL_law_387 (by decide) g_v54 (fun hv54 => ?_)
            refine j_iload C dL_law_388 (hl.at 0 rfl) ?_
            refine j_i2l C dL_law_390 hv48 ?_
            refine j_lcmp C dL_law_391 hv54 hv48 ?_
            refine j_if_eq (tgt := 397) C dL_law_392 (by decide) (cmpI_inR _ _) (fun b1 => ?_) (fun b1 => ?_)
            · rw [if_pos b1] at h
              refine j_goto (tgt := 1477) C dL_law_397 (by decide) ?_
              obtain ⟨z55, g_z55, h⟩ := bd h
              refine k_iinc (k9 := 6) (lv' := [(4, iv z55), (6, iv v48), (5, iv v44), (0, .ref bs), (1, rf b a1), (2, rf b a2), (3, rf b a3)]) C dL_law_1477 hl rfl g_z55 (by decide) rfl (fun hz55 ls hl => ?_)
              refine j_goto (tgt := 23) C dL_law_1480 (by decide) ?_
              exact ih _ _ _ _ _ hz55 h ls (hl.sub [3, 4, 5, 6, 0] rfl)
            · rw [if_neg b1] at h
              refine j_iconst C dL_law_395 ?_
              cases h
              exact absurd hq1 (by simp)
        · rw [if_neg b1] at h
          refine j_iconst C dL_law_378 ?_
          cases h
          exact absurd hq1 (by simp)
      rw [if_neg b3] at h
      by_cases b4 : (v3 % 32) = 4
      · rw [if_pos b4] at h
        refine j_tabIn (tgt := 400) C dL_law_39 hw4 b4 (by decide) (by decide) rfl (by decide) ?_
        refine j_aload_n C dL_law_400 rfl (hl.at 1 rfl) ?_
        refine j_aloadS C dL_law_401 rfl (hl.at 0 rfl) ?_
        refine j_iload C dL_law_402 (hl.at 4 rfl) ?_
        refine j_iconst C dL_law_404 ?_
        obtain ⟨z56, g_z56, h⟩ := bd h
        refine j_iadd C dL_law_405 g_z56 (fun hz56 => ?_)
        obtain ⟨v57, g_v57, h⟩ := bd h
        refine j_sld C hX hbs dL_law_406 hz56 g_v57 (fun hv57 => ?_)
        refine j_aloadS C dL_law_407 rfl (hl.at 0 rfl) ?_
        refine j_iload C dL_law_408 (hl.at 4 rfl) ?_
        refine j_iconst C dL_law_410 ?_
        obtain ⟨z58, g_z58, h⟩ := bd h
        refine j_iadd C dL_law_411 g_z58 (fun hz58 => ?_)
        obtain ⟨v59, g_v59, h⟩ := bd h
        refine j_sld C hX hbs dL_law_412 hz58 g_v59 (fun hv59 => ?_)
        refine j_aloadS C dL_law_413 rfl (hl.at 0 rfl) ?_
        refine j_iload C dL_law_414 (hl.at 4 rfl) ?_
        refine j_iconst C dL_law_416 ?_
        obtain ⟨z60, g_z60, h⟩ := bd h
        refine j_iadd C dL_law_417 g_z60 (fun hz60 => ?_)
        obtain ⟨v61, g_v61, h⟩ := bd h
        refine j_sld C hX hbs dL_law_418 hz60 g_v61 (fun hv61 => ?_)
        refine j_aloadS C dL_law_419 rfl (hl.at 0 rfl) ?_
        refine j_iload C dL_law_420 (hl.at 4 rfl) ?_
        refine j_iconst C dL_law_422 ?_
        obtain ⟨z62, g_z62, h⟩ := bd h
        refine j_iadd C dL_law_423 g_z62 (fun hz62 => ?_)
        obtain ⟨v63, g_v63, h⟩ := bd h
        refine j_sld C hX hbs dL_law_424 hz62 g_v63 (fun hv63 => ?_)
        refine j_aload_n C dL_law_425 rfl (hl.at 3 rfl) ?_
        obtain ⟨S64, v65, wv65, hc, h⟩ := cM_some h
        refine j_callI C (run_SW (As := [rf b a1, iv v57, iv v59, iv v61, iv v63, rf b a3]) (rest := []) C hN (m_L_join hst hv57 hv59 hv61 hv63 hc) cw_RL_105 rfl hl.1.1 (by decide) (by decide) (by decide) dL_law_426) (fun hv65 => ?_)
        refine k_istore (lv' := [(5, iv v65), (0, .ref bs), (1, rf b a1), (2, rf b a2), (3, rf b a3), (4, iv x4)]) C dL_law_429 hl (by decide) rfl (fun ls hl => ?_)
        refine j_aload_n C dL_law_431 rfl (hl.at 3 rfl) ?_
        refine j_aloadS C dL_law_432 rfl (hl.at 1 rfl) ?_
        refine j_iload C dL_law_433 (hl.at 5 rfl) ?_
        refine j_iconst C dL_law_435 ?_
        obtain ⟨z66, g_z66, h⟩ := bd h
        refine j_iadd C dL_law_436 g_z66 (fun hz66 => ?_)
        obtain ⟨v67, g_v67, h⟩ := bd h
        refine j_sld C hX hbs dL_law_437 hz66 g_v67 (fun hv67 => ?_)
        refine j_aloadS C dL_law_438 rfl (hl.at 1 rfl) ?_
        refine j_iload C dL_law_439 (hl.at 5 rfl) ?_
        refine j_iconst C dL_law_441 ?_
        obtain ⟨z68, g_z68, h⟩ := bd h
        refine j_iadd C dL_law_442 g_z68 (fun hz68 => ?_)
        obtain ⟨v69, g_v69, h⟩ := bd h
        refine j_sld C hX hbs dL_law_443 hz68 g_v69 (fun hv69 => ?_)
        refine j_aloadS C dL_law_444 rfl (hl.at 1 rfl) ?_
        refine j_iload C dL_law_445 (hl.at 5 rfl) ?_
        refine j_iconst C dL_law_447 ?_
        obtain ⟨z70, g_z70, h⟩ := bd h
        refine j_iadd C dL_law_448 g_z70 (fun hz70 => ?_)
        obtain ⟨v71, g_v71, h⟩ := bd h
        refine j_sld C hX hbs dL_law_449 hz70 g_v71 (fun hv71 => ?_)
        refine j_aloadS C dL_law_450 rfl (hl.at 1 rfl) ?_
        refine j_iload C dL_law_451 (hl.at 5 rfl) ?_
        refine j_iconst C dL_law_453 ?_
        obtain ⟨z72, g_z72, h⟩ := bd h
        refine j_iadd C dL_law_454 g_z72 (fun hz72 => ?_)
        obtain ⟨v73, g_v73, h⟩ := bd h
        refine j_sld C hX hbs dL_law_455 hz72 g_v73 (fun hv73 => ?_)
        obtain ⟨c76, h⟩ := gd_some h
        obtain ⟨S74, v75, wv75, hc, h⟩ := cM_some h
        refine j_callI C (run_W (As := [iv v67, iv v69, iv v71, iv v73]) (rest := []) C (m_X6_join hst hv67 hv69 hv71 hv73 hc) cv_RL_108 (by decide) rfl c76 rfl hl (by decide) (by decide) (by decide) dL_law_456) (fun hv75 => ?_)
        refine k_istore (lv' := [(6, iv v75), (5, iv v65), (0, .ref bs), (1, rf b a1), (2, rf b a2), (3, rf b a3), (4, iv x4)]) C dL_law_459 hl (by decide) rfl (fun ls hl => ?_)
        refine j_aload_n C dL_law_461 rfl (hl.at 4 rfl) ?_
        obtain ⟨c79, h⟩ := gd_some h
        obtain ⟨S77, v78, wv78, hc, h⟩ := cM_some h
        refine j_callI C (run_W (As := []) (rest := []) C (m_X6_thrown hst hc) cv_RL_90 (by decide) rfl c79 rfl hl (by decide) (by decide) (by decide) dL_law_462) (fun hv78 => ?_)
        refine j_iload C dL_law_465 (hl.at 1 rfl) ?_
        refine j_icmp_eq (tgt := 472) C dL_law_467 (by decide) hv78 hv65 (fun b1 => ?_) (fun b1 => ?_)
        · rw [if_pos b1] at h
          refine j_iload C dL_law_472 (hl.at 1 rfl) ?_
          refine j_if_ne (tgt := 496) C dL_law_474 (by decide) hv65 (fun b1 => ?_) (fun b1 => ?_)
          · rw [if_neg b1] at h
            refine j_goto (tgt := 1477) C dL_law_496 (by decide) ?_
            obtain ⟨z80, g_z80, h⟩ := bd h
            refine k_iinc (k9 := 6) (lv' := [(4, iv z80), (6, iv v75), (5, iv v65), (0, .ref bs), (1, rf b a1), (2, rf b a2), (3, rf b a3)]) C dL_law_1477 hl rfl g_z80 (by decide) rfl (fun hz80 ls hl => ?_)
            refine j_goto (tgt := 23) C dL_law_1480 (by decide) ?_
            exact ih _ _ _ _ _ hz80 h ls (hl.sub [3, 4, 5, 6, 0] rfl)
          · rw [if_pos (Decidable.byContradiction b1)] at h
            refine j_aload_n C dL_law_477 rfl (hl.at 5 rfl) ?_
            refine j_iconst C dL_law_478 ?_
            obtain ⟨v81, g_v81, h⟩ := bd h
            refine j_lald C dL_law_479 (by decide) g_v81 (fun hv81 => ?_)
            refine j_iload C dL_law_480 (hl.at 0 rfl) ?_
            refine j_if_eq (tgt := 489) C dL_law_482 (by decide) hv75 (fun b1 => ?_) (fun b1 => ?_)
            · rw [if_pos b1] at h
              refine j_lconst (x := 0) C dL_law_489 (by decide) ?_
              exact w_L_law_490 C hN hX hbs hL hq1 hend ih _ _ _ _ _ _ _ hx4 (by decide) hv81 h ls (hl.sub [2, 3, 4, 5, 6] rfl)
            · rw [if_neg b1] at h
              refine j_lconst (x := 1) C dL_law_485 (by decide) ?_
              refine j_goto (tgt := 490) C dL_law_486 (by decide) ?_
              exact w_L_law_490 C hN hX hbs hL hq1 hend ih _ _ _ _ _ _ _ hx4 (by decide) hv81 h ls (hl.sub [2, 3, 4, 5, 6] rfl)
        · rw [if_neg b1] at h
          refine j_iconst C dL_law_470 ?_
          cases h
          exact absurd hq1 (by simp)
      rw [if_neg b4] at h
      by_cases b5 : (v3 % 32) = 5
      · rw [if_pos b5] at h
        refine j_tabIn (tgt := 499) C dL_law_39 hw4 b5 (by decide) (by decide) rfl (by decide) ?_
        refine j_aload_n C dL_law_499 rfl (hl.at 1 rfl) ?_
        refine j_aloadS C dL_law_500 rfl (hl.at 0 rfl) ?_
        refine j_iload C dL_law_501 (hl.at 4 rfl) ?_
        refine j_iconst C dL_law_503 ?_
        obtain ⟨z82, g_z82, h⟩ := bd h
        refine j_iadd C dL_law_504 g_z82 (fun hz82 => ?_)
        obtain ⟨v83, g_v83, h⟩ := bd h
        refine j_sld C hX hbs dL_law_505 hz82 g_v83 (fun hv83 => ?_)
        refine j_aloadS C dL_law_506 rfl (hl.at 0 rfl) ?_
        refine j_iload C dL_law_507 (hl.at 4 rfl) ?_
        refine j_iconst C dL_law_509 ?_
        obtain ⟨z84, g_z84, h⟩ := bd h
        refine j_iadd C dL_law_510 g_z84 (fun hz84 => ?_)
        obtain ⟨v85, g_v85, h⟩ := bd h
        refine j_sld C hX hbs dL_law_511 hz84 g_v85 (fun hv85 => ?_)
        refine j_aloadS C dL_law_512 rfl (hl.at 0 rfl) ?_
        refine j_iload C dL_law_513 (hl.at 4 rfl) ?_
        refine j_iconst C dL_law_515 ?_
        obtain ⟨z86, g_z86, h⟩ := bd h
        refine j_iadd C dL_law_516 g_z86 (fun hz86 => ?_)
        obtain ⟨v87, g_v87, h⟩ := bd h
        refine j_sld C hX hbs dL_law_517 hz86 g_v87 (fun hv87 => ?_)
        refine j_aload_n C dL_law_518 rfl (hl.at 3 rfl) ?_
        obtain ⟨S88, v89, wv89, hc, h⟩ := cM_some h
        refine j_callI C (run_SW (As := [rf b a1, iv v83, iv v85, iv v87, rf b a3]) (rest := []) C hN (m_L_part hst hv83 hv85 hv87 hc) cw_RL_109 rfl hl.1.1 (by decide) (by decide) (by decide) dL_law_519) (fun hv89 => ?_)
        refine k_istore (lv' := [(5, iv v89), (0, .ref bs), (1, rf b a1), (2, rf b a2), (3, rf b a3), (4, iv x4)]) C dL_law_522 hl (by decide) rfl (fun ls hl => ?_)
        refine j_aload_n C dL_law_524 rfl (hl.at 3 rfl) ?_
        refine j_aloadS C dL_law_525 rfl (hl.at 1 rfl) ?_
        refine j_iload C dL_law_526 (hl.at 5 rfl) ?_
        refine j_iconst C dL_law_528 ?_
        obtain ⟨z90, g_z90, h⟩ := bd h
        refine j_iadd C dL_law_529 g_z90 (fun hz90 => ?_)
        obtain ⟨v91, g_v91, h⟩ := bd h
        refine j_sld C hX hbs dL_law_530 hz90 g_v91 (fun hv91 => ?_)
        refine j_aloadS C dL_law_531 rfl (hl.at 1 rfl) ?_
        refine j_iload C dL_law_532 (hl.at 5 rfl) ?_
        refine j_iconst C dL_law_534 ?_
        obtain ⟨z92, g_z92, h⟩ := bd h
        refine j_iadd C dL_law_535 g_z92 (fun hz92 => ?_)
        obtain ⟨v93, g_v93, h⟩ := bd h
        refine j_sld C hX hbs dL_law_536 hz92 g_v93 (fun hv93 => ?_)
        refine j_aloadS C dL_law_537 rfl (hl.at 1 rfl) ?_
        refine j_iload C dL_law_538 (hl.at 5 rfl) ?_
        refine j_iconst C dL_law_540 ?_
        obtain ⟨z94, g_z94, h⟩ := bd h
        refine j_iadd C dL_law_541 g_z94 (fun hz94 => ?_)
        obtain ⟨v95, g_v95, h⟩ := bd h
        refine j_sld C hX hbs dL_law_542 hz94 g_v95 (fun hv95 => ?_)
        obtain ⟨c98, h⟩ := gd_some h
        obtain ⟨S96, v97, wv97, hc, h⟩ := cM_some h
        refine j_callI C (run_W (As := [iv v91, iv v93, iv v95]) (rest := []) C (m_X6_part hst hv91 hv93 hv95 hc) cv_RL_112 (by decide) rfl c98 rfl hl (by decide) (by decide) (by decide) dL_law_543) (fun hv97 => ?_)
        refine k_istore (lv' := [(6, iv v97), (5, iv v89), (0, .ref bs), (1, rf b a1), (2, rf b a2), (3, rf b a3), (4, iv x4)]) C dL_law_546 hl (by decide) rfl (fun ls hl => ?_)
        refine j_aload_n C dL_law_548 rfl (hl.at 4 rfl) ?_
        obtain ⟨c101, h⟩ := gd_some h
        obtain ⟨S99, v100, wv100, hc, h⟩ := cM_some h
        refine j_callI C (run_W (As := []) (rest := []) C (m_X6_thrown hst hc) cv_RL_90 (by decide) rfl c101 rfl hl (by decide) (by decide) (by decide) dL_law_549) (fun hv100 => ?_)
        refine j_iload C dL_law_552 (hl.at 1 rfl) ?_
        refine j_icmp_eq (tgt := 559) C dL_law_554 (by decide) hv100 hv89 (fun b1 => ?_) (fun b1 => ?_)
        · rw [if_pos b1] at h
          refine j_iload C dL_law_559 (hl.at 1 rfl) ?_
          refine j_if_ne (tgt := 583) C dL_law_561 (by decide) hv89 (fun b1 => ?_) (fun b1 => ?_)
          · rw [if_neg b1] at h
            refine j_goto (tgt := 1477) C dL_law_583 (by decide) ?_
            obtain ⟨z102, g_z102, h⟩ := bd h
            refine k_iinc (k9 := 6) (lv' := [(4, iv z102), (6, iv v97), (5, iv v89), (0, .ref bs), (1, rf b a1), (2, rf b a2), (3, rf b a3)]) C dL_law_1477 hl rfl g_z102 (by decide) rfl (fun hz102 ls hl => ?_)
            refine j_goto (tgt := 23) C dL_law_1480 (by decide) ?_
            exact ih _ _ _ _ _ hz102 h ls (hl.sub [3, 4, 5, 6, 0] rfl)
          · rw [if_pos (Decidable.byContradiction b1)] at h
            refine j_aload_n C dL_law_564 rfl (hl.at 5 rfl) ?_
            refine j_iconst C dL_law_565 ?_
            obtain ⟨v103, g_v103, h⟩ := bd h
            refine j_lald C dL_law_566 (by decide) g_v103 (fun hv103 => ?_)
            refine j_iload C dL_law_567 (hl.at 0 rfl) ?_
            refine j_if_eq (tgt := 576) C dL_law_569 (by decide) hv97 (fun b1 => ?_) (fun b1 => ?_)
            · rw [if_pos b1] at h
              refine j_lconst (x := 0) C dL_law_576 (by decide) ?_
              exact w_L_law_577 C hN hX hbs hL hq1 hend ih _ _ _ _ _ _ _ hx4 (by decide) hv103 h ls (hl.sub [2, 3, 4, 5, 6] rfl)
            · rw [if_neg b1] at h
              refine j_lconst (x := 1) C dL_law_572 (by decide) ?_
              refine j_goto (tgt := 577) C dL_law_573 (by decide) ?_
              exact w_L_law_577 C hN hX hbs hL hq1 hend ih _ _ _ _ _ _ _ hx4 (by decide) hv103 h ls (hl.sub [2, 3, 4, 5, 6] rfl)
        · rw [if_neg b1] at h
          refine j_iconst C dL_law_557 ?_
          cases h
          exact absurd hq1 (by simp)
      rw [if_neg b5] at h
      by_cases b6 : (v3 % 32) = 6
      · rw [if_pos b6] at h
        refine j_tabIn (tgt := 586) C dL_law_39 hw4 b6 (by decide) (by decide) rfl (by decide) ?_
        refine j_aload_n C dL_law_586 rfl (hl.at 1 rfl) ?_
        refine j_aloadS C dL_law_587 rfl (hl.at 0 rfl) ?_
        refine j_iload C dL_law_588 (hl.at 4 rfl) ?_
        refine j_iconst C dL_law_590 ?_
        obtain ⟨z104, g_z104, h⟩ := bd h
        refine j_iadd C dL_law_591 g_z104 (fun hz104 => ?_)
        obtain ⟨v105, g_v105, h⟩ := bd h
        refine j_sld C hX hbs dL_law_592 hz104 g_v105 (fun hv105 => ?_)
        refine j_aloadS C dL_law_593 rfl (hl.at 0 rfl) ?_
        refine j_iload C dL_law_594 (hl.at 4 rfl) ?_
        refine j_iconst C dL_law_596 ?_
        obtain ⟨z106, g_z106, h⟩ := bd h
        refine j_iadd C dL_law_597 g_z106 (fun hz106 => ?_)
        obtain ⟨v107, g_v107, h⟩ := bd h
        refine j_sld C hX hbs dL_law_598 hz106 g_v107 (fun hv107 => ?_)
        refine j_aloadS C dL_law_599 rfl (hl.at 0 rfl) ?_
        refine j_iload C dL_law_600 (hl.at 4 rfl) ?_
        refine j_iconst C dL_law_602 ?_
        obtain ⟨z108, g_z108, h⟩ := bd h
        refine j_iadd C dL_law_603 g_z108 (fun hz108 => ?_)
        obtain ⟨v109, g_v109, h⟩ := bd h
        refine j_sld C hX hbs dL_law_604 hz108 g_v109 (fun hv109 => ?_)
        refine j_aload_n C dL_law_605 rfl (hl.at 3 rfl) ?_
        obtain ⟨S110, v111, wv111, hc, h⟩ := cM_some h
        refine j_callI C (run_SW (As := [rf b a1, iv v105, iv v107, iv v109, rf b a3]) (rest := []) C hN (m_L_netOf hst hv105 hv107 hv109 hc) cw_RL_113 rfl hl.1.1 (by decide) (by decide) (by decide) dL_law_606) (fun hv111 => ?_)
        refine k_istore (lv' := [(5, iv v111), (0, .ref bs), (1, rf b a1), (2, rf b a2), (3, rf b a3), (4, iv x4)]) C dL_law_609 hl (by decide) rfl (fun ls hl => ?_)
        refine j_aload_n C dL_law_611 rfl (hl.at 3 rfl) ?_
        refine j_aloadS C dL_law_612 rfl (hl.at 1 rfl) ?_
        refine j_iload C dL_law_613 (hl.at 5 rfl) ?_
        refine j_iconst C dL_law_615 ?_
        obtain ⟨z112, g_z112, h⟩ := bd h
        refine j_iadd C dL_law_616 g_z112 (fun hz112 => ?_)
        obtain ⟨v113, g_v113, h⟩ := bd h
        refine j_sld C hX hbs dL_law_617 hz112 g_v113 (fun hv113 => ?_)
        refine j_aloadS C dL_law_618 rfl (hl.at 1 rfl) ?_
        refine j_iload C dL_law_619 (hl.at 5 rfl) ?_
        refine j_iconst C dL_law_621 ?_
        obtain ⟨z114, g_z114, h⟩ := bd h
        refine j_iadd C dL_law_622 g_z114 (fun hz114 => ?_)
        obtain ⟨v115, g_v115, h⟩ := bd h
        refine j_sld C hX hbs dL_law_623 hz114 g_v115 (fun hv115 => ?_)
        refine j_aloadS C dL_law_624 rfl (hl.at 1 rfl) ?_
        refine j_iload C dL_law_625 (hl.at 5 rfl) ?_
        refine j_iconst C dL_law_627 ?_
        obtain ⟨z116, g_z116, h⟩ := bd h
        refine j_iadd C dL_law_628 g_z116 (fun hz116 => ?_)
        obtain ⟨v117, g_v117, h⟩ := bd h
        refine j_sld C hX hbs dL_law_629 hz116 g_v117 (fun hv117 => ?_)
        obtain ⟨c120, h⟩ := gd_some h
        obtain ⟨S118, v119, wv119, hc, h⟩ := cM_some h
        refine j_callI C (run_W (As := [iv v113, iv v115, iv v117]) (rest := []) C (m_X6_netOf hst hv113 hv115 hv117 hc) cv_RL_115 (by decide) rfl c120 rfl hl (by decide) (by decide) (by decide) dL_law_630) (fun hv119 => ?_)
        refine k_istore (lv' := [(6, iv v119), (5, iv v111), (0, .ref bs), (1, rf b a1), (2, rf b a2), (3, rf b a3), (4, iv x4)]) C dL_law_633 hl (by decide) rfl (fun ls hl => ?_)
        refine j_aload_n C dL_law_635 rfl (hl.at 4 rfl) ?_
        obtain ⟨c123, h⟩ := gd_some h
        obtain ⟨S121, v122, wv122, hc, h⟩ := cM_some h
        refine j_callI C (run_W (As := []) (rest := []) C (m_X6_thrown hst hc) cv_RL_90 (by decide) rfl c123 rfl hl (by decide) (by decide) (by decide) dL_law_636) (fun hv122 => ?_)
        refine j_iload C dL_law_639 (hl.at 1 rfl) ?_
        refine j_icmp_eq (tgt := 646) C dL_law_641 (by decide) hv122 hv111 (fun b1 => ?_) (fun b1 => ?_)
        · rw [if_pos b1] at h
          refine j_iload C dL_law_646 (hl.at 1 rfl) ?_
          refine j_if_ne (tgt := 663) C dL_law_648 (by decide) hv111 (fun b1 => ?_) (fun b1 => ?_)
          · rw [if_neg b1] at h
            refine j_goto (tgt := 1477) C dL_law_663 (by decide) ?_
            obtain ⟨z124, g_z124, h⟩ := bd h
            refine k_iinc (k9 := 6) (lv' := [(4, iv z124), (6, iv v119), (5, iv v111), (0, .ref bs), (1, rf b a1), (2, rf b a2), (3, rf b a3)]) C dL_law_1477 hl rfl g_z124 (by decide) rfl (fun hz124 ls hl => ?_)
            refine j_goto (tgt := 23) C dL_law_1480 (by decide) ?_
            exact ih _ _ _ _ _ hz124 h ls (hl.sub [3, 4, 5, 6, 0] rfl)
          · rw [if_pos (Decidable.byContradiction b1)] at h
            refine j_aload_n C dL_law_651 rfl (hl.at 5 rfl) ?_
            refine j_iconst C dL_law_652 ?_
            obtain ⟨v125, g_v125, h⟩ := bd h
            refine j_lald C dL_law_653 (by decide) g_v125 (fun hv125 => ?_)
            refine j_iload C dL_law_654 (hl.at 0 rfl) ?_
            refine j_i2l C dL_law_656 hv119 ?_
            refine j_lcmp C dL_law_657 hv125 hv119 ?_
            refine j_if_eq (tgt := 663) C dL_law_658 (by decide) (cmpI_inR _ _) (fun b1 => ?_) (fun b1 => ?_)
            · rw [if_pos b1] at h
              refine j_goto (tgt := 1477) C dL_law_663 (by decide) ?_
              obtain ⟨z126, g_z126, h⟩ := bd h
              refine k_iinc (k9 := 6) (lv' := [(4, iv z126), (6, iv v119), (5, iv v111), (0, .ref bs), (1, rf b a1), (2, rf b a2), (3, rf b a3)]) C dL_law_1477 hl rfl g_z126 (by decide) rfl (fun hz126 ls hl => ?_)
              refine j_goto (tgt := 23) C dL_law_1480 (by decide) ?_
              exact ih _ _ _ _ _ hz126 h ls (hl.sub [3, 4, 5, 6, 0] rfl)
            · rw [if_neg b1] at h
              refine j_iconst C dL_law_661 ?_
              cases h
              exact absurd hq1 (by simp)
        · rw [if_neg b1] at h
          refine j_iconst C dL_law_644 ?_
          cases h
          exact absurd hq1 (by simp)
      rw [if_neg b6] at h
      by_cases b7 : (v3 % 32) = 7
      · rw [if_pos b7] at h
        refine j_tabIn (tgt := 666) C dL_law_39 hw4 b7 (by decide) (by decide) rfl (by decide) ?_
        refine j_aload_n C dL_law_666 rfl (hl.at 1 rfl) ?_
        refine j_aloadS C dL_law_667 rfl (hl.at 0 rfl) ?_
        refine j_iload C dL_law_668 (hl.at 4 rfl) ?_
        refine j_iconst C dL_law_670 ?_
        obtain ⟨z127, g_z127, h⟩ := bd h
        refine j_iadd C dL_law_671 g_z127 (fun hz127 => ?_)
        obtain ⟨v128, g_v128, h⟩ := bd h
        refine j_sld C hX hbs dL_law_672 hz127 g_v128 (fun hv128 => ?_)
        refine j_aloadS C dL_law_673 rfl (hl.at 0 rfl) ?_
        refine j_iload C dL_law_674 (hl.at 4 rfl) ?_
        refine j_iconst C dL_law_676 ?_
        obtain ⟨z129, g_z129, h⟩ := bd h
        refine j_iadd C dL_law_677 g_z129 (fun hz129 => ?_)
        obtain ⟨v130, g_v130, h⟩ := bd h
        refine j_sld C hX hbs dL_law_678 hz129 g_v130 (fun hv130 => ?_)
        refine j_aload_n C dL_law_679 rfl (hl.at 3 rfl) ?_
        obtain ⟨S131, v132, wv132, hc, h⟩ := cM_some h
        refine j_callI C (run_SW (As := [rf b a1, iv v128, iv v130, rf b a3]) (rest := []) C hN (m_L_pins hst hv128 hv130 hc) cw_RL_116 rfl hl.1.1 (by decide) (by decide) (by decide) dL_law_680) (fun hv132 => ?_)
        refine k_istore (lv' := [(5, iv v132), (0, .ref bs), (1, rf b a1), (2, rf b a2), (3, rf b a3), (4, iv x4)]) C dL_law_683 hl (by decide) rfl (fun ls hl => ?_)
        refine j_aload_n C dL_law_685 rfl (hl.at 3 rfl) ?_
        refine j_aloadS C dL_law_686 rfl (hl.at 1 rfl) ?_
        refine j_iload C dL_law_687 (hl.at 5 rfl) ?_
        refine j_iconst C dL_law_689 ?_
        obtain ⟨z133, g_z133, h⟩ := bd h
        refine j_iadd C dL_law_690 g_z133 (fun hz133 => ?_)
        obtain ⟨v134, g_v134, h⟩ := bd h
        refine j_sld C hX hbs dL_law_691 hz133 g_v134 (fun hv134 => ?_)
        refine j_aloadS C dL_law_692 rfl (hl.at 1 rfl) ?_
        refine j_iload C dL_law_693 (hl.at 5 rfl) ?_
        refine j_iconst C dL_law_695 ?_
        obtain ⟨z135, g_z135, h⟩ := bd h
        refine j_iadd C dL_law_696 g_z135 (fun hz135 => ?_)
        obtain ⟨v136, g_v136, h⟩ := bd h
        refine j_sld C hX hbs dL_law_697 hz135 g_v136 (fun hv136 => ?_)
        obtain ⟨c139, h⟩ := gd_some h
        obtain ⟨S137, v138, wv138, hc, h⟩ := cM_some h
        refine j_callI C (run_W (As := [iv v134, iv v136]) (rest := []) C (m_X6_pins hst hv134 hv136 hc) cv_RL_118 (by decide) rfl c139 rfl hl (by decide) (by decide) (by decide) dL_law_698) (fun hv138 => ?_)
        refine k_istore (lv' := [(6, iv v138), (5, iv v132), (0, .ref bs), (1, rf b a1), (2, rf b a2), (3, rf b a3), (4, iv x4)]) C dL_law_701 hl (by decide) rfl (fun ls hl => ?_)
        refine j_aload_n C dL_law_703 rfl (hl.at 4 rfl) ?_
        obtain ⟨c142, h⟩ := gd_some h
        obtain ⟨S140, v141, wv141, hc, h⟩ := cM_some h
        refine j_callI C (run_W (As := []) (rest := []) C (m_X6_thrown hst hc) cv_RL_90 (by decide) rfl c142 rfl hl (by decide) (by decide) (by decide) dL_law_704) (fun hv141 => ?_)
        refine j_iload C dL_law_707 (hl.at 1 rfl) ?_
        refine j_icmp_eq (tgt := 714) C dL_law_709 (by decide) hv141 hv132 (fun b1 => ?_) (fun b1 => ?_)
        · rw [if_pos b1] at h
          refine j_iload C dL_law_714 (hl.at 1 rfl) ?_
          refine j_if_ne (tgt := 731) C dL_law_716 (by decide) hv132 (fun b1 => ?_) (fun b1 => ?_)
          · rw [if_neg b1] at h
            refine j_goto (tgt := 1477) C dL_law_731 (by decide) ?_
            obtain ⟨z143, g_z143, h⟩ := bd h
            refine k_iinc (k9 := 6) (lv' := [(4, iv z143), (6, iv v138), (5, iv v132), (0, .ref bs), (1, rf b a1), (2, rf b a2), (3, rf b a3)]) C dL_law_1477 hl rfl g_z143 (by decide) rfl (fun hz143 ls hl => ?_)
            refine j_goto (tgt := 23) C dL_law_1480 (by decide) ?_
            exact ih _ _ _ _ _ hz143 h ls (hl.sub [3, 4, 5, 6, 0] rfl)
          · rw [if_pos (Decidable.byContradiction b1)] at h
            refine j_aload_n C dL_law_719 rfl (hl.at 5 rfl) ?_
            refine j_iconst C dL_law_720 ?_
            obtain ⟨v144, g_v144, h⟩ := bd h
            refine j_lald C dL_law_721 (by decide) g_v144 (fun hv144 => ?_)
            refine j_iload C dL_law_722 (hl.at 0 rfl) ?_
            refine j_i2l C dL_law_724 hv138 ?_
            refine j_lcmp C dL_law_725 hv144 hv138 ?_
            refine j_if_eq (tgt := 731) C dL_law_726 (by decide) (cmpI_inR _ _) (fun b1 => ?_) (fun b1 => ?_)
            · rw [if_pos b1] at h
              refine j_goto (tgt := 1477) C dL_law_731 (by decide) ?_
              obtain ⟨z145, g_z145, h⟩ := bd h
              refine k_iinc (k9 := 6) (lv' := [(4, iv z145), (6, iv v138), (5, iv v132), (0, .ref bs), (1, rf b a1), (2, rf b a2), (3, rf b a3)]) C dL_law_1477 hl rfl g_z145 (by decide) rfl (fun hz145 ls hl => ?_)
              refine j_goto (tgt := 23) C dL_law_1480 (by decide) ?_
              exact ih _ _ _ _ _ hz145 h ls (hl.sub [3, 4, 5, 6, 0] rfl)
            · rw [if_neg b1] at h
              refine j_iconst C dL_law_729 ?_
              cases h
              exact absurd hq1 (by simp)
        · rw [if_neg b1] at h
          refine j_iconst C dL_law_712 ?_
          cases h
          exact absurd hq1 (by simp)
      rw [if_neg b7] at h
      by_cases b8 : (v3 % 32) = 8
      · rw [if_pos b8] at h
        refine j_tabIn (tgt := 734) C dL_law_39 hw4 b8 (by decide) (by decide) rfl (by decide) ?_
        refine j_aload_n C dL_law_734 rfl (hl.at 1 rfl) ?_
        refine j_aloadS C dL_law_735 rfl (hl.at 0 rfl) ?_
        refine j_iload C dL_law_736 (hl.at 4 rfl) ?_
        refine j_iconst C dL_law_738 ?_
        obtain ⟨z146, g_z146, h⟩ := bd h
        refine j_iadd C dL_law_739 g_z146 (fun hz146 => ?_)
        obtain ⟨v147, g_v147, h⟩ := bd h
        refine j_sld C hX hbs dL_law_740 hz146 g_v147 (fun hv147 => ?_)
        refine j_aloadS C dL_law_741 rfl (hl.at 0 rfl) ?_
        refine j_iload C dL_law_742 (hl.at 4 rfl) ?_
        refine j_iconst C dL_law_744 ?_
        obtain ⟨z148, g_z148, h⟩ := bd h
        refine j_iadd C dL_law_745 g_z148 (fun hz148 => ?_)
        obtain ⟨v149, g_v149, h⟩ := bd h
        refine j_sld C hX hbs dL_law_746 hz148 g_v149 (fun hv149 => ?_)
        refine j_aloadS C dL_law_747 rfl (hl.at 0 rfl) ?_
        refine j_iload C dL_law_748 (hl.at 4 rfl) ?_
        refine j_iconst C dL_law_750 ?_
        obtain ⟨z150, g_z150, h⟩ := bd h
        refine j_iadd C dL_law_751 g_z150 (fun hz150 => ?_)
        obtain ⟨v151, g_v151, h⟩ := bd h
        refine j_sld C hX hbs dL_law_752 hz150 g_v151 (fun hv151 => ?_)
        refine j_aloadS C dL_law_753 rfl (hl.at 0 rfl) ?_
        refine j_iload C dL_law_754 (hl.at 4 rfl) ?_
        refine j_iconst C dL_law_756 ?_
        obtain ⟨z152, g_z152, h⟩ := bd h
        refine j_iadd C dL_law_757 g_z152 (fun hz152 => ?_)
        obtain ⟨v153, g_v153, h⟩ := bd h
        refine j_sld C hX hbs dL_law_758 hz152 g_v153 (fun hv153 => ?_)
        refine j_aload_n C dL_law_759 rfl (hl.at 3 rfl) ?_
        obtain ⟨S154, v155, wv155, hc, h⟩ := cM_some h
        refine j_callI C (run_SW (As := [rf b a1, iv v147, iv v149, iv v151, iv v153, rf b a3]) (rest := []) C hN (m_L_pin hst hv147 hv149 hv151 hv153 hc) cw_RL_119 rfl hl.1.1 (by decide) (by decide) (by decide) dL_law_760) (fun hv155 => ?_)
        refine k_istore (lv' := [(5, iv v155), (0, .ref bs), (1, rf b a1), (2, rf b a2), (3, rf b a3), (4, iv x4)]) C dL_law_763 hl (by decide) rfl (fun ls hl => ?_)
        refine j_aload_n C dL_law_765 rfl (hl.at 3 rfl) ?_
        refine j_aloadS C dL_law_766 rfl (hl.at 1 rfl) ?_
        refine j_iload C dL_law_767 (hl.at 5 rfl) ?_
        refine j_iconst C dL_law_769 ?_
        obtain ⟨z156, g_z156, h⟩ := bd h
        refine j_iadd C dL_law_770 g_z156 (fun hz156 => ?_)
        obtain ⟨v157, g_v157, h⟩ := bd h
        refine j_sld C hX hbs dL_law_771 hz156 g_v157 (fun hv157 => ?_)
        refine j_aloadS C dL_law_772 rfl (hl.at 1 rfl) ?_
        refine j_iload C dL_law_773 (hl.at 5 rfl) ?_
        refine j_iconst C dL_law_775 ?_
        obtain ⟨z158, g_z158, h⟩ := bd h
        refine j_iadd C dL_law_776 g_z158 (fun hz158 => ?_)
        obtain ⟨v159, g_v159, h⟩ := bd h
        refine j_sld C hX hbs dL_law_777 hz158 g_v159 (fun hv159 => ?_)
        refine j_aloadS C dL_law_778 rfl (hl.at 1 rfl) ?_
        refine j_iload C dL_law_779 (hl.at 5 rfl) ?_
        refine j_iconst C dL_law_781 ?_
        obtain ⟨z160, g_z160, h⟩ := bd h
        refine j_iadd C dL_law_782 g_z160 (fun hz160 => ?_)
        obtain ⟨v161, g_v161, h⟩ := bd h
        refine j_sld C hX hbs dL_law_783 hz160 g_v161 (fun hv161 => ?_)
        refine j_aloadS C dL_law_784 rfl (hl.at 1 rfl) ?_
        refine j_iload C dL_law_785 (hl.at 5 rfl) ?_
        refine j_iconst C dL_law_787 ?_
        obtain ⟨z162, g_z162, h⟩ := bd h
        refine j_iadd C dL_law_788 g_z162 (fun hz162 => ?_)
        obtain ⟨v163, g_v163, h⟩ := bd h
        refine j_sld C hX hbs dL_law_789 hz162 g_v163 (fun hv163 => ?_)
        obtain ⟨c166, h⟩ := gd_some h
        obtain ⟨S164, v165, wv165, hc, h⟩ := cM_some h
        refine j_callI C (run_W (As := [iv v157, iv v159, iv v161, iv v163]) (rest := []) C (m_X6_pin hst hv157 hv159 hv161 hv163 hc) cv_RL_121 (by decide) rfl c166 rfl hl (by decide) (by decide) (by decide) dL_law_790) (fun hv165 => ?_)
        refine k_istore (lv' := [(6, iv v165), (5, iv v155), (0, .ref bs), (1, rf b a1), (2, rf b a2), (3, rf b a3), (4, iv x4)]) C dL_law_793 hl (by decide) rfl (fun ls hl => ?_)
        refine j_aload_n C dL_law_795 rfl (hl.at 4 rfl) ?_
        obtain ⟨c169, h⟩ := gd_some h
        obtain ⟨S167, v168, wv168, hc, h⟩ := cM_some h
        refine j_callI C (run_W (As := []) (rest := []) C (m_X6_thrown hst hc) cv_RL_90 (by decide) rfl c169 rfl hl (by decide) (by decide) (by decide) dL_law_796) (fun hv168 => ?_)
        refine j_iload C dL_law_799 (hl.at 1 rfl) ?_
        refine j_icmp_eq (tgt := 806) C dL_law_801 (by decide) hv168 hv155 (fun b1 => ?_) (fun b1 => ?_)
        · rw [if_pos b1] at h
          refine j_iload C dL_law_806 (hl.at 1 rfl) ?_
          refine j_if_ne (tgt := 823) C dL_law_808 (by decide) hv155 (fun b1 => ?_) (fun b1 => ?_)
          · rw [if_neg b1] at h
            refine j_goto (tgt := 1477) C dL_law_823 (by decide) ?_
            obtain ⟨z170, g_z170, h⟩ := bd h
            refine k_iinc (k9 := 6) (lv' := [(4, iv z170), (6, iv v165), (5, iv v155), (0, .ref bs), (1, rf b a1), (2, rf b a2), (3, rf b a3)]) C dL_law_1477 hl rfl g_z170 (by decide) rfl (fun hz170 ls hl => ?_)
            refine j_goto (tgt := 23) C dL_law_1480 (by decide) ?_
            exact ih _ _ _ _ _ hz170 h ls (hl.sub [3, 4, 5, 6, 0] rfl)
          · rw [if_pos (Decidable.byContradiction b1)] at h
            refine j_aload_n C dL_law_811 rfl (hl.at 5 rfl) ?_
            refine j_iconst C dL_law_812 ?_
            obtain ⟨v171, g_v171, h⟩ := bd h
            refine j_lald C dL_law_813 (by decide) g_v171 (fun hv171 => ?_)
            refine j_iload C dL_law_814 (hl.at 0 rfl) ?_
            refine j_i2l C dL_law_816 hv165 ?_
            refine j_lcmp C dL_law_817 hv171 hv165 ?_
            refine j_if_eq (tgt := 823) C dL_law_818 (by decide) (cmpI_inR _ _) (fun b1 => ?_) (fun b1 => ?_)
            · rw [if_pos b1] at h
              refine j_goto (tgt := 1477) C dL_law_823 (by decide) ?_
              obtain ⟨z172, g_z172, h⟩ := bd h
              refine k_iinc (k9 := 6) (lv' := [(4, iv z172), (6, iv v165), (5, iv v155), (0, .ref bs), (1, rf b a1), (2, rf b a2), (3, rf b a3)]) C dL_law_1477 hl rfl g_z172 (by decide) rfl (fun hz172 ls hl => ?_)
              refine j_goto (tgt := 23) C dL_law_1480 (by decide) ?_
              exact ih _ _ _ _ _ hz172 h ls (hl.sub [3, 4, 5, 6, 0] rfl)
            · rw [if_neg b1] at h
              refine j_iconst C dL_law_821 ?_
              cases h
              exact absurd hq1 (by simp)
        · rw [if_neg b1] at h
          refine j_iconst C dL_law_804 ?_
          cases h
          exact absurd hq1 (by simp)
      rw [if_neg b8] at h
      by_cases b9 : (v3 % 32) = 9
      · rw [if_pos b9] at h
        refine j_tabIn (tgt := 826) C dL_law_39 hw4 b9 (by decide) (by decide) rfl (by decide) ?_
        refine j_aload_n C dL_law_826 rfl (hl.at 1 rfl) ?_
        refine j_aloadS C dL_law_827 rfl (hl.at 0 rfl) ?_
        refine j_iload C dL_law_828 (hl.at 4 rfl) ?_
        refine j_iconst C dL_law_830 ?_
        obtain ⟨z173, g_z173, h⟩ := bd h
        refine j_iadd C dL_law_831 g_z173 (fun hz173 => ?_)
        obtain ⟨v174, g_v174, h⟩ := bd h
        refine j_sld C hX hbs dL_law_832 hz173 g_v174 (fun hv174 => ?_)
        refine j_aload_n C dL_law_833 rfl (hl.at 3 rfl) ?_
        obtain ⟨S175, v176, wv176, hc, h⟩ := cM_some h
        refine j_callI C (run_SW (As := [rf b a1, iv v174, rf b a3]) (rest := []) C hN (m_L_copy hst hv174 hc) cw_RL_122 rfl hl.1.1 (by decide) (by decide) (by decide) dL_law_834) (fun hv176 => ?_)
        refine k_istore (lv' := [(5, iv v176), (0, .ref bs), (1, rf b a1), (2, rf b a2), (3, rf b a3), (4, iv x4)]) C dL_law_837 hl (by decide) rfl (fun ls hl => ?_)
        refine j_aload_n C dL_law_839 rfl (hl.at 3 rfl) ?_
        refine j_aloadS C dL_law_840 rfl (hl.at 1 rfl) ?_
        refine j_iload C dL_law_841 (hl.at 5 rfl) ?_
        refine j_iconst C dL_law_843 ?_
        obtain ⟨z177, g_z177, h⟩ := bd h
        refine j_iadd C dL_law_844 g_z177 (fun hz177 => ?_)
        obtain ⟨v178, g_v178, h⟩ := bd h
        refine j_sld C hX hbs dL_law_845 hz177 g_v178 (fun hv178 => ?_)
        obtain ⟨c181, h⟩ := gd_some h
        obtain ⟨S179, v180, wv180, hc, h⟩ := cM_some h
        refine j_callI C (run_W (As := [iv v178]) (rest := []) C (m_X6_copy hst hv178 hc) cv_RL_124 (by decide) rfl c181 rfl hl (by decide) (by decide) (by decide) dL_law_846) (fun hv180 => ?_)
        refine k_istore (lv' := [(6, iv v180), (5, iv v176), (0, .ref bs), (1, rf b a1), (2, rf b a2), (3, rf b a3), (4, iv x4)]) C dL_law_849 hl (by decide) rfl (fun ls hl => ?_)
        refine j_aload_n C dL_law_851 rfl (hl.at 4 rfl) ?_
        obtain ⟨c184, h⟩ := gd_some h
        obtain ⟨S182, v183, wv183, hc, h⟩ := cM_some h
        refine j_callI C (run_W (As := []) (rest := []) C (m_X6_thrown hst hc) cv_RL_90 (by decide) rfl c184 rfl hl (by decide) (by decide) (by decide) dL_law_852) (fun hv183 => ?_)
        refine j_iload C dL_law_855 (hl.at 1 rfl) ?_
        refine j_icmp_eq (tgt := 862) C dL_law_857 (by decide) hv183 hv176 (fun b1 => ?_) (fun b1 => ?_)
        · rw [if_pos b1] at h
          refine j_iload C dL_law_862 (hl.at 1 rfl) ?_
          refine j_if_ne (tgt := 879) C dL_law_864 (by decide) hv176 (fun b1 => ?_) (fun b1 => ?_)
          · rw [if_neg b1] at h
            refine j_goto (tgt := 1477) C dL_law_879 (by decide) ?_
            obtain ⟨z185, g_z185, h⟩ := bd h
            refine k_iinc (k9 := 6) (lv' := [(4, iv z185), (6, iv v180), (5, iv v176), (0, .ref bs), (1, rf b a1), (2, rf b a2), (3, rf b a3)]) C dL_law_1477 hl rfl g_z185 (by decide) rfl (fun hz185 ls hl => ?_)
            refine j_goto (tgt := 23) C dL_law_1480 (by decide) ?_
            exact ih _ _ _ _ _ hz185 h ls (hl.sub [3, 4, 5, 6, 0] rfl)
          · rw [if_pos (Decidable.byContradiction b1)] at h
            refine j_aload_n C dL_law_867 rfl (hl.at 5 rfl) ?_
            refine j_iconst C dL_law_868 ?_
            obtain ⟨v186, g_v186, h⟩ := bd h
            refine j_lald C dL_law_869 (by decide) g_v186 (fun hv186 => ?_)
            refine j_iload C dL_law_870 (hl.at 0 rfl) ?_
            refine j_i2l C dL_law_872 hv180 ?_
            refine j_lcmp C dL_law_873 hv186 hv180 ?_
            refine j_if_eq (tgt := 879) C dL_law_874 (by decide) (cmpI_inR _ _) (fun b1 => ?_) (fun b1 => ?_)
            · rw [if_pos b1] at h
              refine j_goto (tgt := 1477) C dL_law_879 (by decide) ?_
              obtain ⟨z187, g_z187, h⟩ := bd h
              refine k_iinc (k9 := 6) (lv' := [(4, iv z187), (6, iv v180), (5, iv v176), (0, .ref bs), (1, rf b a1), (2, rf b a2), (3, rf b a3)]) C dL_law_1477 hl rfl g_z187 (by decide) rfl (fun hz187 ls hl => ?_)
              refine j_goto (tgt := 23) C dL_law_1480 (by decide) ?_
              exact ih _ _ _ _ _ hz187 h ls (hl.sub [3, 4, 5, 6, 0] rfl)
            · rw [if_neg b1] at h
              refine j_iconst C dL_law_877 ?_
              cases h
              exact absurd hq1 (by simp)
        · rw [if_neg b1] at h
          refine j_iconst C dL_law_860 ?_
          cases h
          exact absurd hq1 (by simp)
      rw [if_neg b9] at h
      by_cases b10 : (v3 % 32) = 10
      · rw [if_pos b10] at h
        refine j_tabIn (tgt := 882) C dL_law_39 hw4 b10 (by decide) (by decide) rfl (by decide) ?_
        refine j_aload_n C dL_law_882 rfl (hl.at 1 rfl) ?_
        refine j_aloadS C dL_law_883 rfl (hl.at 0 rfl) ?_
        refine j_iload C dL_law_884 (hl.at 4 rfl) ?_
        refine j_iconst C dL_law_886 ?_
        obtain ⟨z188, g_z188, h⟩ := bd h
        refine j_iadd C dL_law_887 g_z188 (fun hz188 => ?_)
        obtain ⟨v189, g_v189, h⟩ := bd h
        refine j_sld C hX hbs dL_law_888 hz188 g_v189 (fun hv189 => ?_)
        refine j_aloadS C dL_law_889 rfl (hl.at 0 rfl) ?_
        refine j_iload C dL_law_890 (hl.at 4 rfl) ?_
        refine j_iconst C dL_law_892 ?_
        obtain ⟨z190, g_z190, h⟩ := bd h
        refine j_iadd C dL_law_893 g_z190 (fun hz190 => ?_)
        obtain ⟨v191, g_v191, h⟩ := bd h
        refine j_sld C hX hbs dL_law_894 hz190 g_v191 (fun hv191 => ?_)
        refine j_aload_n C dL_law_895 rfl (hl.at 3 rfl) ?_
        obtain ⟨S192, v193, wv193, hc, h⟩ := cM_some h
        refine j_callI C (run_SW (As := [rf b a1, iv v189, iv v191, rf b a3]) (rest := []) C hN (m_L_shared hst hv189 hv191 hc) cw_RL_125 rfl hl.1.1 (by decide) (by decide) (by decide) dL_law_896) (fun hv193 => ?_)
        refine k_istore (lv' := [(5, iv v193), (0, .ref bs), (1, rf b a1), (2, rf b a2), (3, rf b a3), (4, iv x4)]) C dL_law_899 hl (by decide) rfl (fun ls hl => ?_)
        refine j_aload_n C dL_law_901 rfl (hl.at 3 rfl) ?_
        refine j_aloadS C dL_law_902 rfl (hl.at 1 rfl) ?_
        refine j_iload C dL_law_903 (hl.at 5 rfl) ?_
        refine j_iconst C dL_law_905 ?_
        obtain ⟨z194, g_z194, h⟩ := bd h
        refine j_iadd C dL_law_906 g_z194 (fun hz194 => ?_)
        obtain ⟨v195, g_v195, h⟩ := bd h
        refine j_sld C hX hbs dL_law_907 hz194 g_v195 (fun hv195 => ?_)
        refine j_aloadS C dL_law_908 rfl (hl.at 1 rfl) ?_
        refine j_iload C dL_law_909 (hl.at 5 rfl) ?_
        refine j_iconst C dL_law_911 ?_
        obtain ⟨z196, g_z196, h⟩ := bd h
        refine j_iadd C dL_law_912 g_z196 (fun hz196 => ?_)
        obtain ⟨v197, g_v197, h⟩ := bd h
        refine j_sld C hX hbs dL_law_913 hz196 g_v197 (fun hv197 => ?_)
        obtain ⟨c200, h⟩ := gd_some h
        obtain ⟨S198, v199, wv199, hc, h⟩ := cM_some h
        refine j_callI C (run_W (As := [iv v195, iv v197]) (rest := []) C (m_X6_shared hst hv195 hv197 hc) cv_RL_127 (by decide) rfl c200 rfl hl (by decide) (by decide) (by decide) dL_law_914) (fun hv199 => ?_)
        refine k_istore (lv' := [(6, iv v199), (5, iv v193), (0, .ref bs), (1, rf b a1), (2, rf b a2), (3, rf b a3), (4, iv x4)]) C dL_law_917 hl (by decide) rfl (fun ls hl => ?_)
        refine j_aload_n C dL_law_919 rfl (hl.at 4 rfl) ?_
        obtain ⟨c203, h⟩ := gd_some h
        obtain ⟨S201, v202, wv202, hc, h⟩ := cM_some h
        refine j_callI C (run_W (As := []) (rest := []) C (m_X6_thrown hst hc) cv_RL_90 (by decide) rfl c203 rfl hl (by decide) (by decide) (by decide) dL_law_920) (fun hv202 => ?_)
        refine j_iload C dL_law_923 (hl.at 1 rfl) ?_
        refine j_icmp_eq (tgt := 930) C dL_law_925 (by decide) hv202 hv193 (fun b1 => ?_) (fun b1 => ?_)
        · rw [if_pos b1] at h
          refine j_iload C dL_law_930 (hl.at 1 rfl) ?_
          refine j_if_ne (tgt := 954) C dL_law_932 (by decide) hv193 (fun b1 => ?_) (fun b1 => ?_)
          · rw [if_neg b1] at h
            refine j_goto (tgt := 1477) C dL_law_954 (by decide) ?_
            obtain ⟨z204, g_z204, h⟩ := bd h
            refine k_iinc (k9 := 6) (lv' := [(4, iv z204), (6, iv v199), (5, iv v193), (0, .ref bs), (1, rf b a1), (2, rf b a2), (3, rf b a3)]) C dL_law_1477 hl rfl g_z204 (by decide) rfl (fun hz204 ls hl => ?_)
            refine j_goto (tgt := 23) C dL_law_1480 (by decide) ?_
            exact ih _ _ _ _ _ hz204 h ls (hl.sub [3, 4, 5, 6, 0] rfl)
          · rw [if_pos (Decidable.byContradiction b1)] at h
            refine j_aload_n C dL_law_935 rfl (hl.at 5 rfl) ?_
            refine j_iconst C dL_law_936 ?_
            obtain ⟨v205, g_v205, h⟩ := bd h
            refine j_lald C dL_law_937 (by decide) g_v205 (fun hv205 => ?_)
            refine j_iload C dL_law_938 (hl.at 0 rfl) ?_
            refine j_if_eq (tgt := 947) C dL_law_940 (by decide) hv199 (fun b1 => ?_) (fun b1 => ?_)
            · rw [if_pos b1] at h
              refine j_lconst (x := 0) C dL_law_947 (by decide) ?_
              exact w_L_law_948 C hN hX hbs hL hq1 hend ih _ _ _ _ _ _ _ hx4 (by decide) hv205 h ls (hl.sub [2, 3, 4, 5, 6] rfl)
            · rw [if_neg b1] at h
              refine j_lconst (x := 1) C dL_law_943 (by decide) ?_
              refine j_goto (tgt := 948) C dL_law_944 (by decide) ?_
              exact w_L_law_948 C hN hX hbs hL hq1 hend ih _ _ _ _ _ _ _ hx4 (by decide) hv205 h ls (hl.sub [2, 3, 4, 5, 6] rfl)
        · rw [if_neg b1] at h
          refine j_iconst C dL_law_928 ?_
          cases h
          exact absurd hq1 (by simp)
      rw [if_neg b10] at h
      by_cases b11 : (v3 % 32) = 11
      · rw [if_pos b11] at h
        refine j_tabIn (tgt := 957) C dL_law_39 hw4 b11 (by decide) (by decide) rfl (by decide) ?_
        refine j_aload_n C dL_law_957 rfl (hl.at 1 rfl) ?_
        refine j_aloadS C dL_law_958 rfl (hl.at 0 rfl) ?_
        refine j_iload C dL_law_959 (hl.at 4 rfl) ?_
        refine j_iconst C dL_law_961 ?_
        obtain ⟨z206, g_z206, h⟩ := bd h
        refine j_iadd C dL_law_962 g_z206 (fun hz206 => ?_)
        obtain ⟨v207, g_v207, h⟩ := bd h
        refine j_sld C hX hbs dL_law_963 hz206 g_v207 (fun hv207 => ?_)
        refine j_aload_n C dL_law_964 rfl (hl.at 3 rfl) ?_
        obtain ⟨S208, v209, wv209, hc, h⟩ := cM_some h
        refine j_callI C (run_SW (As := [rf b a1, iv v207, rf b a3]) (rest := []) C hN (m_L_flat hst hv207 hc) cw_RL_128 rfl hl.1.1 (by decide) (by decide) (by decide) dL_law_965) (fun hv209 => ?_)
        refine k_istore (lv' := [(5, iv v209), (0, .ref bs), (1, rf b a1), (2, rf b a2), (3, rf b a3), (4, iv x4)]) C dL_law_968 hl (by decide) rfl (fun ls hl => ?_)
        refine j_aload_n C dL_law_970 rfl (hl.at 3 rfl) ?_
        refine j_aloadS C dL_law_971 rfl (hl.at 1 rfl) ?_
        refine j_iload C dL_law_972 (hl.at 5 rfl) ?_
        refine j_iconst C dL_law_974 ?_
        obtain ⟨z210, g_z210, h⟩ := bd h
        refine j_iadd C dL_law_975 g_z210 (fun hz210 => ?_)
        obtain ⟨v211, g_v211, h⟩ := bd h
        refine j_sld C hX hbs dL_law_976 hz210 g_v211 (fun hv211 => ?_)
        obtain ⟨c214, h⟩ := gd_some h
        obtain ⟨S212, v213, wv213, hc, h⟩ := cM_some h
        refine j_callI C (run_W (As := [iv v211]) (rest := []) C (m_X6_flat hst hv211 hc) cv_RL_130 (by decide) rfl c214 rfl hl (by decide) (by decide) (by decide) dL_law_977) (fun hv213 => ?_)
        refine k_istore (lv' := [(6, iv v213), (5, iv v209), (0, .ref bs), (1, rf b a1), (2, rf b a2), (3, rf b a3), (4, iv x4)]) C dL_law_980 hl (by decide) rfl (fun ls hl => ?_)
        refine j_aload_n C dL_law_982 rfl (hl.at 4 rfl) ?_
        obtain ⟨c217, h⟩ := gd_some h
        obtain ⟨S215, v216, wv216, hc, h⟩ := cM_some h
        refine j_callI C (run_W (As := []) (rest := []) C (m_X6_thrown hst hc) cv_RL_90 (by decide) rfl c217 rfl hl (by decide) (by decide) (by decide) dL_law_983) (fun hv216 => ?_)
        refine j_iload C dL_law_986 (hl.at 1 rfl) ?_
        refine j_icmp_eq (tgt := 993) C dL_law_988 (by decide) hv216 hv209 (fun b1 => ?_) (fun b1 => ?_)
        · rw [if_pos b1] at h
          refine j_iload C dL_law_993 (hl.at 1 rfl) ?_
          refine j_if_ne (tgt := 1010) C dL_law_995 (by decide) hv209 (fun b1 => ?_) (fun b1 => ?_)
          · rw [if_neg b1] at h
            refine j_goto (tgt := 1477) C dL_law_1010 (by decide) ?_
            obtain ⟨z218, g_z218, h⟩ := bd h
            refine k_iinc (k9 := 6) (lv' := [(4, iv z218), (6, iv v213), (5, iv v209), (0, .ref bs), (1, rf b a1), (2, rf b a2), (3, rf b a3)]) C dL_law_1477 hl rfl g_z218 (by decide) rfl (fun hz218 ls hl => ?_)
            refine j_goto (tgt := 23) C dL_law_1480 (by decide) ?_
            exact ih _ _ _ _ _ hz218 h ls (hl.sub [3, 4, 5, 6, 0] rfl)
          · rw [if_pos (Decidable.byContradiction b1)] at h
            refine j_aload_n C dL_law_998 rfl (hl.at 5 rfl) ?_
            refine j_iconst C dL_law_999 ?_
            obtain ⟨v219, g_v219, h⟩ := bd h
            refine j_lald C dL_law_1000 (by decide) g_v219 (fun hv219 => ?_)
            refine j_iload C dL_law_1001 (hl.at 0 rfl) ?_
            refine j_i2l C dL_law_1003 hv213 ?_
            refine j_lcmp C dL_law_1004 hv219 hv213 ?_
            refine j_if_eq (tgt := 1010) C dL_law_1005 (by decide) (cmpI_inR _ _) (fun b1 => ?_) (fun b1 => ?_)
            · rw [if_pos b1] at h
              refine j_goto (tgt := 1477) C dL_law_1010 (by decide) ?_
              obtain ⟨z220, g_z220, h⟩ := bd h
              refine k_iinc (k9 := 6) (lv' := [(4, iv z220), (6, iv v213), (5, iv v209), (0, .ref bs), (1, rf b a1), (2, rf b a2), (3, rf b a3)]) C dL_law_1477 hl rfl g_z220 (by decide) rfl (fun hz220 ls hl => ?_)
              refine j_goto (tgt := 23) C dL_law_1480 (by decide) ?_
              exact ih _ _ _ _ _ hz220 h ls (hl.sub [3, 4, 5, 6, 0] rfl)
            · rw [if_neg b1] at h
              refine j_iconst C dL_law_1008 ?_
              cases h
              exact absurd hq1 (by simp)
        · rw [if_neg b1] at h
          refine j_iconst C dL_law_991 ?_
          cases h
          exact absurd hq1 (by simp)
      rw [if_neg b11] at h
      by_cases b12 : (v3 % 32) = 12
      · rw [if_pos b12] at h
        refine j_tabIn (tgt := 1013) C dL_law_39 hw4 b12 (by decide) (by decide) rfl (by decide) ?_
        refine j_aload_n C dL_law_1013 rfl (hl.at 1 rfl) ?_
        refine j_aloadS C dL_law_1014 rfl (hl.at 0 rfl) ?_
        refine j_iload C dL_law_1015 (hl.at 4 rfl) ?_
        refine j_iconst C dL_law_1017 ?_
        obtain ⟨z221, g_z221, h⟩ := bd h
        refine j_iadd C dL_law_1018 g_z221 (fun hz221 => ?_)
        obtain ⟨v222, g_v222, h⟩ := bd h
        refine j_sld C hX hbs dL_law_1019 hz221 g_v222 (fun hv222 => ?_)
        refine j_aloadS C dL_law_1020 rfl (hl.at 0 rfl) ?_
        refine j_iload C dL_law_1021 (hl.at 4 rfl) ?_
        refine j_iconst C dL_law_1023 ?_
        obtain ⟨z223, g_z223, h⟩ := bd h
        refine j_iadd C dL_law_1024 g_z223 (fun hz223 => ?_)
        obtain ⟨v224, g_v224, h⟩ := bd h
        refine j_sld C hX hbs dL_law_1025 hz223 g_v224 (fun hv224 => ?_)
        refine j_aloadS C dL_law_1026 rfl (hl.at 0 rfl) ?_
        refine j_iload C dL_law_1027 (hl.at 4 rfl) ?_
        refine j_iconst C dL_law_1029 ?_
        obtain ⟨z225, g_z225, h⟩ := bd h
        refine j_iadd C dL_law_1030 g_z225 (fun hz225 => ?_)
        obtain ⟨v226, g_v226, h⟩ := bd h
        refine j_sld C hX hbs dL_law_1031 hz225 g_v226 (fun hv226 => ?_)
        refine j_aload_n C dL_law_1032 rfl (hl.at 3 rfl) ?_
        obtain ⟨S227, v228, wv228, hc, h⟩ := cM_some h
        refine j_callI C (run_SW (As := [rf b a1, iv v222, iv v224, iv v226, rf b a3]) (rest := []) C hN (m_L_path hst hv222 hv224 hv226 hc) cw_RL_131 rfl hl.1.1 (by decide) (by decide) (by decide) dL_law_1033) (fun hv228 => ?_)
        refine k_istore (lv' := [(5, iv v228), (0, .ref bs), (1, rf b a1), (2, rf b a2), (3, rf b a3), (4, iv x4)]) C dL_law_1036 hl (by decide) rfl (fun ls hl => ?_)
        refine j_aload_n C dL_law_1038 rfl (hl.at 3 rfl) ?_
        refine j_aloadS C dL_law_1039 rfl (hl.at 1 rfl) ?_
        refine j_iload C dL_law_1040 (hl.at 5 rfl) ?_
        refine j_iconst C dL_law_1042 ?_
        obtain ⟨z229, g_z229, h⟩ := bd h
        refine j_iadd C dL_law_1043 g_z229 (fun hz229 => ?_)
        obtain ⟨v230, g_v230, h⟩ := bd h
        refine j_sld C hX hbs dL_law_1044 hz229 g_v230 (fun hv230 => ?_)
        refine j_aloadS C dL_law_1045 rfl (hl.at 1 rfl) ?_
        refine j_iload C dL_law_1046 (hl.at 5 rfl) ?_
        refine j_iconst C dL_law_1048 ?_
        obtain ⟨z231, g_z231, h⟩ := bd h
        refine j_iadd C dL_law_1049 g_z231 (fun hz231 => ?_)
        obtain ⟨v232, g_v232, h⟩ := bd h
        refine j_sld C hX hbs dL_law_1050 hz231 g_v232 (fun hv232 => ?_)
        refine j_aloadS C dL_law_1051 rfl (hl.at 1 rfl) ?_
        refine j_iload C dL_law_1052 (hl.at 5 rfl) ?_
        refine j_iconst C dL_law_1054 ?_
        obtain ⟨z233, g_z233, h⟩ := bd h
        refine j_iadd C dL_law_1055 g_z233 (fun hz233 => ?_)
        obtain ⟨v234, g_v234, h⟩ := bd h
        refine j_sld C hX hbs dL_law_1056 hz233 g_v234 (fun hv234 => ?_)
        obtain ⟨c237, h⟩ := gd_some h
        obtain ⟨S235, v236, wv236, hc, h⟩ := cM_some h
        refine j_callI C (run_W (As := [iv v230, iv v232, iv v234]) (rest := []) C (m_X6_path hst hv230 hv232 hv234 hc) cv_RL_133 (by decide) rfl c237 rfl hl (by decide) (by decide) (by decide) dL_law_1057) (fun hv236 => ?_)
        refine k_istore (lv' := [(6, iv v236), (5, iv v228), (0, .ref bs), (1, rf b a1), (2, rf b a2), (3, rf b a3), (4, iv x4)]) C dL_law_1060 hl (by decide) rfl (fun ls hl => ?_)
        refine j_aload_n C dL_law_1062 rfl (hl.at 4 rfl) ?_
        obtain ⟨c240, h⟩ := gd_some h
        obtain ⟨S238, v239, wv239, hc, h⟩ := cM_some h
        refine j_callI C (run_W (As := []) (rest := []) C (m_X6_thrown hst hc) cv_RL_90 (by decide) rfl c240 rfl hl (by decide) (by decide) (by decide) dL_law_1063) (fun hv239 => ?_)
        refine j_iload C dL_law_1066 (hl.at 1 rfl) ?_
        refine j_icmp_eq (tgt := 1073) C dL_law_1068 (by decide) hv239 hv228 (fun b1 => ?_) (fun b1 => ?_)
        · rw [if_pos b1] at h
          refine j_iload C dL_law_1073 (hl.at 1 rfl) ?_
          refine j_if_ne (tgt := 1090) C dL_law_1075 (by decide) hv228 (fun b1 => ?_) (fun b1 => ?_)
          · rw [if_neg b1] at h
            refine j_goto (tgt := 1477) C dL_law_1090 (by decide) ?_
            obtain ⟨z241, g_z241, h⟩ := bd h
            refine k_iinc (k9 := 6) (lv' := [(4, iv z241), (6, iv v236), (5, iv v228), (0, .ref bs), (1, rf b a1), (2, rf b a2), (3, rf b a3)]) C dL_law_1477 hl rfl g_z241 (by decide) rfl (fun hz241 ls hl => ?_)
            refine j_goto (tgt := 23) C dL_law_1480 (by decide) ?_
            exact ih _ _ _ _ _ hz241 h ls (hl.sub [3, 4, 5, 6, 0] rfl)
          · rw [if_pos (Decidable.byContradiction b1)] at h
            refine j_aload_n C dL_law_1078 rfl (hl.at 5 rfl) ?_
            refine j_iconst C dL_law_1079 ?_
            obtain ⟨v242, g_v242, h⟩ := bd h
            refine j_lald C dL_law_1080 (by decide) g_v242 (fun hv242 => ?_)
            refine j_iload C dL_law_1081 (hl.at 0 rfl) ?_
            refine j_i2l C dL_law_1083 hv236 ?_
            refine j_lcmp C dL_law_1084 hv242 hv236 ?_
            refine j_if_eq (tgt := 1090) C dL_law_1085 (by decide) (cmpI_inR _ _) (fun b1 => ?_) (fun b1 => ?_)
            · rw [if_pos b1] at h
              refine j_goto (tgt := 1477) C dL_law_1090 (by decide) ?_
              obtain ⟨z243, g_z243, h⟩ := bd h
              refine k_iinc (k9 := 6) (lv' := [(4, iv z243), (6, iv v236), (5, iv v228), (0, .ref bs), (1, rf b a1), (2, rf b a2), (3, rf b a3)]) C dL_law_1477 hl rfl g_z243 (by decide) rfl (fun hz243 ls hl => ?_)
              refine j_goto (tgt := 23) C dL_law_1480 (by decide) ?_
              exact ih _ _ _ _ _ hz243 h ls (hl.sub [3, 4, 5, 6, 0] rfl)
            · rw [if_neg b1] at h
              refine j_iconst C dL_law_1088 ?_
              cases h
              exact absurd hq1 (by simp)
        · rw [if_neg b1] at h
          refine j_iconst C dL_law_1071 ?_
          cases h
          exact absurd hq1 (by simp)
      rw [if_neg b12] at h
      by_cases b13 : (v3 % 32) = 13
      · rw [if_pos b13] at h
        refine j_tabIn (tgt := 1093) C dL_law_39 hw4 b13 (by decide) (by decide) rfl (by decide) ?_
        refine j_aload_n C dL_law_1093 rfl (hl.at 1 rfl) ?_
        refine j_aloadS C dL_law_1094 rfl (hl.at 0 rfl) ?_
        refine j_iload C dL_law_1095 (hl.at 4 rfl) ?_
        refine j_iconst C dL_law_1097 ?_
        obtain ⟨z244, g_z244, h⟩ := bd h
        refine j_iadd C dL_law_1098 g_z244 (fun hz244 => ?_)
        obtain ⟨v245, g_v245, h⟩ := bd h
        refine j_sld C hX hbs dL_law_1099 hz244 g_v245 (fun hv245 => ?_)
        refine j_aloadS C dL_law_1100 rfl (hl.at 0 rfl) ?_
        refine j_iload C dL_law_1101 (hl.at 4 rfl) ?_
        refine j_iconst C dL_law_1103 ?_
        obtain ⟨z246, g_z246, h⟩ := bd h
        refine j_iadd C dL_law_1104 g_z246 (fun hz246 => ?_)
        obtain ⟨v247, g_v247, h⟩ := bd h
        refine j_sld C hX hbs dL_law_1105 hz246 g_v247 (fun hv247 => ?_)
        refine j_aload_n C dL_law_1106 rfl (hl.at 3 rfl) ?_
        obtain ⟨S248, v249, wv249, hc, h⟩ := cM_some h
        refine j_callI C (run_SW (As := [rf b a1, iv v245, iv v247, rf b a3]) (rest := []) C hN (m_L_doubled hst hv245 hv247 hc) cw_RL_134 rfl hl.1.1 (by decide) (by decide) (by decide) dL_law_1107) (fun hv249 => ?_)
        refine k_istore (lv' := [(5, iv v249), (0, .ref bs), (1, rf b a1), (2, rf b a2), (3, rf b a3), (4, iv x4)]) C dL_law_1110 hl (by decide) rfl (fun ls hl => ?_)
        refine j_aload_n C dL_law_1112 rfl (hl.at 3 rfl) ?_
        refine j_aloadS C dL_law_1113 rfl (hl.at 1 rfl) ?_
        refine j_iload C dL_law_1114 (hl.at 5 rfl) ?_
        refine j_iconst C dL_law_1116 ?_
        obtain ⟨z250, g_z250, h⟩ := bd h
        refine j_iadd C dL_law_1117 g_z250 (fun hz250 => ?_)
        obtain ⟨v251, g_v251, h⟩ := bd h
        refine j_sld C hX hbs dL_law_1118 hz250 g_v251 (fun hv251 => ?_)
        refine j_aloadS C dL_law_1119 rfl (hl.at 1 rfl) ?_
        refine j_iload C dL_law_1120 (hl.at 5 rfl) ?_
        refine j_iconst C dL_law_1122 ?_
        obtain ⟨z252, g_z252, h⟩ := bd h
        refine j_iadd C dL_law_1123 g_z252 (fun hz252 => ?_)
        obtain ⟨v253, g_v253, h⟩ := bd h
        refine j_sld C hX hbs dL_law_1124 hz252 g_v253 (fun hv253 => ?_)
        obtain ⟨c256, h⟩ := gd_some h
        obtain ⟨S254, v255, wv255, hc, h⟩ := cM_some h
        refine j_callI C (run_W (As := [iv v251, iv v253]) (rest := []) C (m_X6_doubled hst hv251 hv253 hc) cv_RL_136 (by decide) rfl c256 rfl hl (by decide) (by decide) (by decide) dL_law_1125) (fun hv255 => ?_)
        refine k_istore (lv' := [(6, iv v255), (5, iv v249), (0, .ref bs), (1, rf b a1), (2, rf b a2), (3, rf b a3), (4, iv x4)]) C dL_law_1128 hl (by decide) rfl (fun ls hl => ?_)
        refine j_aload_n C dL_law_1130 rfl (hl.at 4 rfl) ?_
        obtain ⟨c259, h⟩ := gd_some h
        obtain ⟨S257, v258, wv258, hc, h⟩ := cM_some h
        refine j_callI C (run_W (As := []) (rest := []) C (m_X6_thrown hst hc) cv_RL_90 (by decide) rfl c259 rfl hl (by decide) (by decide) (by decide) dL_law_1131) (fun hv258 => ?_)
        refine j_iload C dL_law_1134 (hl.at 1 rfl) ?_
        refine j_icmp_eq (tgt := 1141) C dL_law_1136 (by decide) hv258 hv249 (fun b1 => ?_) (fun b1 => ?_)
        · rw [if_pos b1] at h
          refine j_iload C dL_law_1141 (hl.at 1 rfl) ?_
          refine j_if_ne (tgt := 1158) C dL_law_1143 (by decide) hv249 (fun b1 => ?_) (fun b1 => ?_)
          · rw [if_neg b1] at h
            refine j_goto (tgt := 1477) C dL_law_1158 (by decide) ?_
            obtain ⟨z260, g_z260, h⟩ := bd h
            refine k_iinc (k9 := 6) (lv' := [(4, iv z260), (6, iv v255), (5, iv v249), (0, .ref bs), (1, rf b a1), (2, rf b a2), (3, rf b a3)]) C dL_law_1477 hl rfl g_z260 (by decide) rfl (fun hz260 ls hl => ?_)
            refine j_goto (tgt := 23) C dL_law_1480 (by decide) ?_
            exact ih _ _ _ _ _ hz260 h ls (hl.sub [3, 4, 5, 6, 0] rfl)
          · rw [if_pos (Decidable.byContradiction b1)] at h
            refine j_aload_n C dL_law_1146 rfl (hl.at 5 rfl) ?_
            refine j_iconst C dL_law_1147 ?_
            obtain ⟨v261, g_v261, h⟩ := bd h
            refine j_lald C dL_law_1148 (by decide) g_v261 (fun hv261 => ?_)
            refine j_iload C dL_law_1149 (hl.at 0 rfl) ?_
            refine j_i2l C dL_law_1151 hv255 ?_
            refine j_lcmp C dL_law_1152 hv261 hv255 ?_
            refine j_if_eq (tgt := 1158) C dL_law_1153 (by decide) (cmpI_inR _ _) (fun b1 => ?_) (fun b1 => ?_)
            · rw [if_pos b1] at h
              refine j_goto (tgt := 1477) C dL_law_1158 (by decide) ?_
              obtain ⟨z262, g_z262, h⟩ := bd h
              refine k_iinc (k9 := 6) (lv' := [(4, iv z262), (6, iv v255), (5, iv v249), (0, .ref bs), (1, rf b a1), (2, rf b a2), (3, rf b a3)]) C dL_law_1477 hl rfl g_z262 (by decide) rfl (fun hz262 ls hl => ?_)
              refine j_goto (tgt := 23) C dL_law_1480 (by decide) ?_
              exact ih _ _ _ _ _ hz262 h ls (hl.sub [3, 4, 5, 6, 0] rfl)
            · rw [if_neg b1] at h
              refine j_iconst C dL_law_1156 ?_
              cases h
              exact absurd hq1 (by simp)
        · rw [if_neg b1] at h
          refine j_iconst C dL_law_1139 ?_
          cases h
          exact absurd hq1 (by simp)
      rw [if_neg b13] at h
      by_cases b14 : (v3 % 32) = 14
      · rw [if_pos b14] at h
        refine j_tabIn (tgt := 1161) C dL_law_39 hw4 b14 (by decide) (by decide) rfl (by decide) ?_
        refine j_aload_n C dL_law_1161 rfl (hl.at 1 rfl) ?_
        refine j_aloadS C dL_law_1162 rfl (hl.at 0 rfl) ?_
        refine j_iload C dL_law_1163 (hl.at 4 rfl) ?_
        refine j_iconst C dL_law_1165 ?_
        obtain ⟨z263, g_z263, h⟩ := bd h
        refine j_iadd C dL_law_1166 g_z263 (fun hz263 => ?_)
        obtain ⟨v264, g_v264, h⟩ := bd h
        refine j_sld C hX hbs dL_law_1167 hz263 g_v264 (fun hv264 => ?_)
        refine j_aloadS C dL_law_1168 rfl (hl.at 0 rfl) ?_
        refine j_iload C dL_law_1169 (hl.at 4 rfl) ?_
        refine j_iconst C dL_law_1171 ?_
        obtain ⟨z265, g_z265, h⟩ := bd h
        refine j_iadd C dL_law_1172 g_z265 (fun hz265 => ?_)
        obtain ⟨v266, g_v266, h⟩ := bd h
        refine j_sld C hX hbs dL_law_1173 hz265 g_v266 (fun hv266 => ?_)
        refine j_aload_n C dL_law_1174 rfl (hl.at 3 rfl) ?_
        obtain ⟨S267, v268, wv268, hc, h⟩ := cM_some h
        refine j_callI C (run_SW (As := [rf b a1, iv v264, iv v266, rf b a3]) (rest := []) C hN (m_L_open hst hv264 hv266 hc) cw_RL_137 rfl hl.1.1 (by decide) (by decide) (by decide) dL_law_1175) (fun hv268 => ?_)
        refine k_istore (lv' := [(5, iv v268), (0, .ref bs), (1, rf b a1), (2, rf b a2), (3, rf b a3), (4, iv x4)]) C dL_law_1178 hl (by decide) rfl (fun ls hl => ?_)
        refine j_aload_n C dL_law_1180 rfl (hl.at 3 rfl) ?_
        refine j_aloadS C dL_law_1181 rfl (hl.at 1 rfl) ?_
        refine j_iload C dL_law_1182 (hl.at 5 rfl) ?_
        refine j_iconst C dL_law_1184 ?_
        obtain ⟨z269, g_z269, h⟩ := bd h
        refine j_iadd C dL_law_1185 g_z269 (fun hz269 => ?_)
        obtain ⟨v270, g_v270, h⟩ := bd h
        refine j_sld C hX hbs dL_law_1186 hz269 g_v270 (fun hv270 => ?_)
        refine j_aloadS C dL_law_1187 rfl (hl.at 1 rfl) ?_
        refine j_iload C dL_law_1188 (hl.at 5 rfl) ?_
        refine j_iconst C dL_law_1190 ?_
        obtain ⟨z271, g_z271, h⟩ := bd h
        refine j_iadd C dL_law_1191 g_z271 (fun hz271 => ?_)
        obtain ⟨v272, g_v272, h⟩ := bd h
        refine j_sld C hX hbs dL_law_1192 hz271 g_v272 (fun hv272 => ?_)
        obtain ⟨c275, h⟩ := gd_some h
        obtain ⟨S273, v274, wv274, hc, h⟩ := cM_some h
        refine j_callI C (run_W (As := [iv v270, iv v272]) (rest := []) C (m_X6_open hst hv270 hv272 hc) cv_RL_139 (by decide) rfl c275 rfl hl (by decide) (by decide) (by decide) dL_law_1193) (fun hv274 => ?_)
        refine k_istore (lv' := [(6, iv v274), (5, iv v268), (0, .ref bs), (1, rf b a1), (2, rf b a2), (3, rf b a3), (4, iv x4)]) C dL_law_1196 hl (by decide) rfl (fun ls hl => ?_)
        refine j_aload_n C dL_law_1198 rfl (hl.at 4 rfl) ?_
        obtain ⟨c278, h⟩ := gd_some h
        obtain ⟨S276, v277, wv277, hc, h⟩ := cM_some h
        refine j_callI C (run_W (As := []) (rest := []) C (m_X6_thrown hst hc) cv_RL_90 (by decide) rfl c278 rfl hl (by decide) (by decide) (by decide) dL_law_1199) (fun hv277 => ?_)
        refine j_iload C dL_law_1202 (hl.at 1 rfl) ?_
        refine j_icmp_eq (tgt := 1209) C dL_law_1204 (by decide) hv277 hv268 (fun b1 => ?_) (fun b1 => ?_)
        · rw [if_pos b1] at h
          refine j_iload C dL_law_1209 (hl.at 1 rfl) ?_
          refine j_if_ne (tgt := 1226) C dL_law_1211 (by decide) hv268 (fun b1 => ?_) (fun b1 => ?_)
          · rw [if_neg b1] at h
            refine j_goto (tgt := 1477) C dL_law_1226 (by decide) ?_
            obtain ⟨z279, g_z279, h⟩ := bd h
            refine k_iinc (k9 := 6) (lv' := [(4, iv z279), (6, iv v274), (5, iv v268), (0, .ref bs), (1, rf b a1), (2, rf b a2), (3, rf b a3)]) C dL_law_1477 hl rfl g_z279 (by decide) rfl (fun hz279 ls hl => ?_)
            refine j_goto (tgt := 23) C dL_law_1480 (by decide) ?_
            exact ih _ _ _ _ _ hz279 h ls (hl.sub [3, 4, 5, 6, 0] rfl)
          · rw [if_pos (Decidable.byContradiction b1)] at h
            refine j_aload_n C dL_law_1214 rfl (hl.at 5 rfl) ?_
            refine j_iconst C dL_law_1215 ?_
            obtain ⟨v280, g_v280, h⟩ := bd h
            refine j_lald C dL_law_1216 (by decide) g_v280 (fun hv280 => ?_)
            refine j_iload C dL_law_1217 (hl.at 0 rfl) ?_
            refine j_i2l C dL_law_1219 hv274 ?_
            refine j_lcmp C dL_law_1220 hv280 hv274 ?_
            refine j_if_eq (tgt := 1226) C dL_law_1221 (by decide) (cmpI_inR _ _) (fun b1 => ?_) (fun b1 => ?_)
            · rw [if_pos b1] at h
              refine j_goto (tgt := 1477) C dL_law_1226 (by decide) ?_
              obtain ⟨z281, g_z281, h⟩ := bd h
              refine k_iinc (k9 := 6) (lv' := [(4, iv z281), (6, iv v274), (5, iv v268), (0, .ref bs), (1, rf b a1), (2, rf b a2), (3, rf b a3)]) C dL_law_1477 hl rfl g_z281 (by decide) rfl (fun hz281 ls hl => ?_)
              refine j_goto (tgt := 23) C dL_law_1480 (by decide) ?_
              exact ih _ _ _ _ _ hz281 h ls (hl.sub [3, 4, 5, 6, 0] rfl)
            · rw [if_neg b1] at h
              refine j_iconst C dL_law_1224 ?_
              cases h
              exact absurd hq1 (by simp)
        · rw [if_neg b1] at h
          refine j_iconst C dL_law_1207 ?_
          cases h
          exact absurd hq1 (by simp)
      rw [if_neg b14] at h
      by_cases b15 : (v3 % 32) = 15
      · rw [if_pos b15] at h
        refine j_tabIn (tgt := 1229) C dL_law_39 hw4 b15 (by decide) (by decide) rfl (by decide) ?_
        refine j_aload_n C dL_law_1229 rfl (hl.at 1 rfl) ?_
        refine j_aloadS C dL_law_1230 rfl (hl.at 0 rfl) ?_
        refine j_iload C dL_law_1231 (hl.at 4 rfl) ?_
        refine j_iconst C dL_law_1233 ?_
        obtain ⟨z282, g_z282, h⟩ := bd h
        refine j_iadd C dL_law_1234 g_z282 (fun hz282 => ?_)
        obtain ⟨v283, g_v283, h⟩ := bd h
        refine j_sld C hX hbs dL_law_1235 hz282 g_v283 (fun hv283 => ?_)
        refine j_aloadS C dL_law_1236 rfl (hl.at 0 rfl) ?_
        refine j_iload C dL_law_1237 (hl.at 4 rfl) ?_
        refine j_iconst C dL_law_1239 ?_
        obtain ⟨z284, g_z284, h⟩ := bd h
        refine j_iadd C dL_law_1240 g_z284 (fun hz284 => ?_)
        obtain ⟨v285, g_v285, h⟩ := bd h
        refine j_sld C hX hbs dL_law_1241 hz284 g_v285 (fun hv285 => ?_)
        refine j_aload_n C dL_law_1242 rfl (hl.at 3 rfl) ?_
        obtain ⟨S286, v287, wv287, hc, h⟩ := cM_some h
        refine j_callI C (run_SW (As := [rf b a1, iv v283, iv v285, rf b a3]) (rest := []) C hN (m_L_alike hst hv283 hv285 hc) cw_RL_140 rfl hl.1.1 (by decide) (by decide) (by decide) dL_law_1243) (fun hv287 => ?_)
        refine k_istore (lv' := [(5, iv v287), (0, .ref bs), (1, rf b a1), (2, rf b a2), (3, rf b a3), (4, iv x4)]) C dL_law_1246 hl (by decide) rfl (fun ls hl => ?_)
        refine j_aload_n C dL_law_1248 rfl (hl.at 3 rfl) ?_
        refine j_aloadS C dL_law_1249 rfl (hl.at 1 rfl) ?_
        refine j_iload C dL_law_1250 (hl.at 5 rfl) ?_
        refine j_iconst C dL_law_1252 ?_
        obtain ⟨z288, g_z288, h⟩ := bd h
        refine j_iadd C dL_law_1253 g_z288 (fun hz288 => ?_)
        obtain ⟨v289, g_v289, h⟩ := bd h
        refine j_sld C hX hbs dL_law_1254 hz288 g_v289 (fun hv289 => ?_)
        refine j_aloadS C dL_law_1255 rfl (hl.at 1 rfl) ?_
        refine j_iload C dL_law_1256 (hl.at 5 rfl) ?_
        refine j_iconst C dL_law_1258 ?_
        obtain ⟨z290, g_z290, h⟩ := bd h
        refine j_iadd C dL_law_1259 g_z290 (fun hz290 => ?_)
        obtain ⟨v291, g_v291, h⟩ := bd h
        refine j_sld C hX hbs dL_law_1260 hz290 g_v291 (fun hv291 => ?_)
        obtain ⟨c294, h⟩ := gd_some h
        obtain ⟨S292, v293, wv293, hc, h⟩ := cM_some h
        refine j_callI C (run_W (As := [iv v289, iv v291]) (rest := []) C (m_X6_alike hst hv289 hv291 hc) cv_RL_142 (by decide) rfl c294 rfl hl (by decide) (by decide) (by decide) dL_law_1261) (fun hv293 => ?_)
        refine k_istore (lv' := [(6, iv v293), (5, iv v287), (0, .ref bs), (1, rf b a1), (2, rf b a2), (3, rf b a3), (4, iv x4)]) C dL_law_1264 hl (by decide) rfl (fun ls hl => ?_)
        refine j_aload_n C dL_law_1266 rfl (hl.at 4 rfl) ?_
        obtain ⟨c297, h⟩ := gd_some h
        obtain ⟨S295, v296, wv296, hc, h⟩ := cM_some h
        refine j_callI C (run_W (As := []) (rest := []) C (m_X6_thrown hst hc) cv_RL_90 (by decide) rfl c297 rfl hl (by decide) (by decide) (by decide) dL_law_1267) (fun hv296 => ?_)
        refine j_iload C dL_law_1270 (hl.at 1 rfl) ?_
        refine j_icmp_eq (tgt := 1277) C dL_law_1272 (by decide) hv296 hv287 (fun b1 => ?_) (fun b1 => ?_)
        · rw [if_pos b1] at h
          refine j_iload C dL_law_1277 (hl.at 1 rfl) ?_
          refine j_if_ne (tgt := 1301) C dL_law_1279 (by decide) hv287 (fun b1 => ?_) (fun b1 => ?_)
          · rw [if_neg b1] at h
            refine j_goto (tgt := 1477) C dL_law_1301 (by decide) ?_
            obtain ⟨z298, g_z298, h⟩ := bd h
            refine k_iinc (k9 := 6) (lv' := [(4, iv z298), (6, iv v293), (5, iv v287), (0, .ref bs), (1, rf b a1), (2, rf b a2), (3, rf b a3)]) C dL_law_1477 hl rfl g_z298 (by decide) rfl (fun hz298 ls hl => ?_)
            refine j_goto (tgt := 23) C dL_law_1480 (by decide) ?_
            exact ih _ _ _ _ _ hz298 h ls (hl.sub [3, 4, 5, 6, 0] rfl)
          · rw [if_pos (Decidable.byContradiction b1)] at h
            refine j_aload_n C dL_law_1282 rfl (hl.at 5 rfl) ?_
            refine j_iconst C dL_law_1283 ?_
            obtain ⟨v299, g_v299, h⟩ := bd h
            refine j_lald C dL_law_1284 (by decide) g_v299 (fun hv299 => ?_)
            refine j_iload C dL_law_1285 (hl.at 0 rfl) ?_
            refine j_if_eq (tgt := 1294) C dL_law_1287 (by decide) hv293 (fun b1 => ?_) (fun b1 => ?_)
            · rw [if_pos b1] at h
              refine j_lconst (x := 0) C dL_law_1294 (by decide) ?_
              exact w_L_law_1295 C hN hX hbs hL hq1 hend ih _ _ _ _ _ _ _ hx4 (by decide) hv299 h ls (hl.sub [2, 3, 4, 5, 6] rfl)
            · rw [if_neg b1] at h
              refine j_lconst (x := 1) C dL_law_1290 (by decide) ?_
              refine j_goto (tgt := 1295) C dL_law_1291 (by decide) ?_
              exact w_L_law_1295 C hN hX hbs hL hq1 hend ih _ _ _ _ _ _ _ hx4 (by decide) hv299 h ls (hl.sub [2, 3, 4, 5, 6] rfl)
        · rw [if_neg b1] at h
          refine j_iconst C dL_law_1275 ?_
          cases h
          exact absurd hq1 (by simp)
      rw [if_neg b15] at h
      by_cases b16 : (v3 % 32) = 16
      · rw [if_pos b16] at h
        refine j_tabIn (tgt := 1304) C dL_law_39 hw4 b16 (by decide) (by decide) rfl (by decide) ?_
        refine j_aload_n C dL_law_1304 rfl (hl.at 1 rfl) ?_
        refine j_aloadS C dL_law_1305 rfl (hl.at 0 rfl) ?_
        refine j_iload C dL_law_1306 (hl.at 4 rfl) ?_
        refine j_iconst C dL_law_1308 ?_
        obtain ⟨z300, g_z300, h⟩ := bd h
        refine j_iadd C dL_law_1309 g_z300 (fun hz300 => ?_)
        obtain ⟨v301, g_v301, h⟩ := bd h
        refine j_sld C hX hbs dL_law_1310 hz300 g_v301 (fun hv301 => ?_)
        refine j_aloadS C dL_law_1311 rfl (hl.at 0 rfl) ?_
        refine j_iload C dL_law_1312 (hl.at 4 rfl) ?_
        refine j_iconst C dL_law_1314 ?_
        obtain ⟨z302, g_z302, h⟩ := bd h
        refine j_iadd C dL_law_1315 g_z302 (fun hz302 => ?_)
        obtain ⟨v303, g_v303, h⟩ := bd h
        refine j_sld C hX hbs dL_law_1316 hz302 g_v303 (fun hv303 => ?_)
        refine j_aload_n C dL_law_1317 rfl (hl.at 3 rfl) ?_
        obtain ⟨S304, v305, wv305, hc, h⟩ := cM_some h
        refine j_callI C (run_SW (As := [rf b a1, iv v301, iv v303, rf b a3]) (rest := []) C hN (m_L_count hst hv301 hv303 hc) cw_RL_143 rfl hl.1.1 (by decide) (by decide) (by decide) dL_law_1318) (fun hv305 => ?_)
        refine k_istore (lv' := [(5, iv v305), (0, .ref bs), (1, rf b a1), (2, rf b a2), (3, rf b a3), (4, iv x4)]) C dL_law_1321 hl (by decide) rfl (fun ls hl => ?_)
        refine j_aload_n C dL_law_1323 rfl (hl.at 3 rfl) ?_
        refine j_aloadS C dL_law_1324 rfl (hl.at 1 rfl) ?_
        refine j_iload C dL_law_1325 (hl.at 5 rfl) ?_
        refine j_iconst C dL_law_1327 ?_
        obtain ⟨z306, g_z306, h⟩ := bd h
        refine j_iadd C dL_law_1328 g_z306 (fun hz306 => ?_)
        obtain ⟨v307, g_v307, h⟩ := bd h
        refine j_sld C hX hbs dL_law_1329 hz306 g_v307 (fun hv307 => ?_)
        refine j_aloadS C dL_law_1330 rfl (hl.at 1 rfl) ?_
        refine j_iload C dL_law_1331 (hl.at 5 rfl) ?_
        refine j_iconst C dL_law_1333 ?_
        obtain ⟨z308, g_z308, h⟩ := bd h
        refine j_iadd C dL_law_1334 g_z308 (fun hz308 => ?_)
        obtain ⟨v309, g_v309, h⟩ := bd h
        refine j_sld C hX hbs dL_law_1335 hz308 g_v309 (fun hv309 => ?_)
        obtain ⟨c312, h⟩ := gd_some h
        obtain ⟨S310, v311, wv311, hc, h⟩ := cM_some h
        refine j_callI C (run_W (As := [iv v307, iv v309]) (rest := []) C (m_X6_count hst hv307 hv309 hc) cv_RL_145 (by decide) rfl c312 rfl hl (by decide) (by decide) (by decide) dL_law_1336) (fun hv311 => ?_)
        refine k_istore (lv' := [(6, iv v311), (5, iv v305), (0, .ref bs), (1, rf b a1), (2, rf b a2), (3, rf b a3), (4, iv x4)]) C dL_law_1339 hl (by decide) rfl (fun ls hl => ?_)
        refine j_aload_n C dL_law_1341 rfl (hl.at 4 rfl) ?_
        obtain ⟨c315, h⟩ := gd_some h
        obtain ⟨S313, v314, wv314, hc, h⟩ := cM_some h
        refine j_callI C (run_W (As := []) (rest := []) C (m_X6_thrown hst hc) cv_RL_90 (by decide) rfl c315 rfl hl (by decide) (by decide) (by decide) dL_law_1342) (fun hv314 => ?_)
        refine j_iload C dL_law_1345 (hl.at 1 rfl) ?_
        refine j_icmp_eq (tgt := 1352) C dL_law_1347 (by decide) hv314 hv305 (fun b1 => ?_) (fun b1 => ?_)
        · rw [if_pos b1] at h
          refine j_iload C dL_law_1352 (hl.at 1 rfl) ?_
          refine j_if_ne (tgt := 1369) C dL_law_1354 (by decide) hv305 (fun b1 => ?_) (fun b1 => ?_)
          · rw [if_neg b1] at h
            refine j_goto (tgt := 1477) C dL_law_1369 (by decide) ?_
            obtain ⟨z316, g_z316, h⟩ := bd h
            refine k_iinc (k9 := 6) (lv' := [(4, iv z316), (6, iv v311), (5, iv v305), (0, .ref bs), (1, rf b a1), (2, rf b a2), (3, rf b a3)]) C dL_law_1477 hl rfl g_z316 (by decide) rfl (fun hz316 ls hl => ?_)
            refine j_goto (tgt := 23) C dL_law_1480 (by decide) ?_
            exact ih _ _ _ _ _ hz316 h ls (hl.sub [3, 4, 5, 6, 0] rfl)
          · rw [if_pos (Decidable.byContradiction b1)] at h
            refine j_aload_n C dL_law_1357 rfl (hl.at 5 rfl) ?_
            refine j_iconst C dL_law_1358 ?_
            obtain ⟨v317, g_v317, h⟩ := bd h
            refine j_lald C dL_law_1359 (by decide) g_v317 (fun hv317 => ?_)
            refine j_iload C dL_law_1360 (hl.at 0 rfl) ?_
            refine j_i2l C dL_law_1362 hv311 ?_
            refine j_lcmp C dL_law_1363 hv317 hv311 ?_
            refine j_if_eq (tgt := 1369) C dL_law_1364 (by decide) (cmpI_inR _ _) (fun b1 => ?_) (fun b1 => ?_)
            · rw [if_pos b1] at h
              refine j_goto (tgt := 1477) C dL_law_1369 (by decide) ?_
              obtain ⟨z318, g_z318, h⟩ := bd h
              refine k_iinc (k9 := 6) (lv' := [(4, iv z318), (6, iv v311), (5, iv v305), (0, .ref bs), (1, rf b a1), (2, rf b a2), (3, rf b a3)]) C dL_law_1477 hl rfl g_z318 (by decide) rfl (fun hz318 ls hl => ?_)
              refine j_goto (tgt := 23) C dL_law_1480 (by decide) ?_
              exact ih _ _ _ _ _ hz318 h ls (hl.sub [3, 4, 5, 6, 0] rfl)
            · rw [if_neg b1] at h
              refine j_iconst C dL_law_1367 ?_
              cases h
              exact absurd hq1 (by simp)
        · rw [if_neg b1] at h
          refine j_iconst C dL_law_1350 ?_
          cases h
          exact absurd hq1 (by simp)
      rw [if_neg b16] at h
      by_cases b17 : (v3 % 32) = 17
      · rw [if_pos b17] at h
        refine j_tabIn (tgt := 1372) C dL_law_39 hw4 b17 (by decide) (by decide) rfl (by decide) ?_
        refine j_aload_n C dL_law_1372 rfl (hl.at 1 rfl) ?_
        refine j_aloadS C dL_law_1373 rfl (hl.at 0 rfl) ?_
        refine j_iload C dL_law_1374 (hl.at 4 rfl) ?_
        refine j_iconst C dL_law_1376 ?_
        obtain ⟨z319, g_z319, h⟩ := bd h
        refine j_iadd C dL_law_1377 g_z319 (fun hz319 => ?_)
        obtain ⟨v320, g_v320, h⟩ := bd h
        refine j_sld C hX hbs dL_law_1378 hz319 g_v320 (fun hv320 => ?_)
        refine j_aloadS C dL_law_1379 rfl (hl.at 0 rfl) ?_
        refine j_iload C dL_law_1380 (hl.at 4 rfl) ?_
        refine j_iconst C dL_law_1382 ?_
        obtain ⟨z321, g_z321, h⟩ := bd h
        refine j_iadd C dL_law_1383 g_z321 (fun hz321 => ?_)
        obtain ⟨v322, g_v322, h⟩ := bd h
        refine j_sld C hX hbs dL_law_1384 hz321 g_v322 (fun hv322 => ?_)
        refine j_aload_n C dL_law_1385 rfl (hl.at 3 rfl) ?_
        obtain ⟨S323, v324, wv324, hc, h⟩ := cM_some h
        refine j_callI C (run_SW (As := [rf b a1, iv v320, iv v322, rf b a3]) (rest := []) C hN (m_L_moduleOf hst hv320 hv322 hc) cw_RL_146 rfl hl.1.1 (by decide) (by decide) (by decide) dL_law_1386) (fun hv324 => ?_)
        refine k_istore (lv' := [(5, iv v324), (0, .ref bs), (1, rf b a1), (2, rf b a2), (3, rf b a3), (4, iv x4)]) C dL_law_1389 hl (by decide) rfl (fun ls hl => ?_)
        refine j_aload_n C dL_law_1391 rfl (hl.at 3 rfl) ?_
        refine j_aloadS C dL_law_1392 rfl (hl.at 1 rfl) ?_
        refine j_iload C dL_law_1393 (hl.at 5 rfl) ?_
        refine j_iconst C dL_law_1395 ?_
        obtain ⟨z325, g_z325, h⟩ := bd h
        refine j_iadd C dL_law_1396 g_z325 (fun hz325 => ?_)
        obtain ⟨v326, g_v326, h⟩ := bd h
        refine j_sld C hX hbs dL_law_1397 hz325 g_v326 (fun hv326 => ?_)
        refine j_aloadS C dL_law_1398 rfl (hl.at 1 rfl) ?_
        refine j_iload C dL_law_1399 (hl.at 5 rfl) ?_
        refine j_iconst C dL_law_1401 ?_
        obtain ⟨z327, g_z327, h⟩ := bd h
        refine j_iadd C dL_law_1402 g_z327 (fun hz327 => ?_)
        obtain ⟨v328, g_v328, h⟩ := bd h
        refine j_sld C hX hbs dL_law_1403 hz327 g_v328 (fun hv328 => ?_)
        obtain ⟨c331, h⟩ := gd_some h
        obtain ⟨S329, v330, wv330, hc, h⟩ := cM_some h
        refine j_callI C (run_W (As := [iv v326, iv v328]) (rest := []) C (m_X6_moduleOf hst hv326 hv328 hc) cv_RL_148 (by decide) rfl c331 rfl hl (by decide) (by decide) (by decide) dL_law_1404) (fun hv330 => ?_)
        refine k_istore (lv' := [(6, iv v330), (5, iv v324), (0, .ref bs), (1, rf b a1), (2, rf b a2), (3, rf b a3), (4, iv x4)]) C dL_law_1407 hl (by decide) rfl (fun ls hl => ?_)
        refine j_aload_n C dL_law_1409 rfl (hl.at 4 rfl) ?_
        obtain ⟨c334, h⟩ := gd_some h
        obtain ⟨S332, v333, wv333, hc, h⟩ := cM_some h
        refine j_callI C (run_W (As := []) (rest := []) C (m_X6_thrown hst hc) cv_RL_90 (by decide) rfl c334 rfl hl (by decide) (by decide) (by decide) dL_law_1410) (fun hv333 => ?_)
        refine j_iload C dL_law_1413 (hl.at 1 rfl) ?_
        refine j_icmp_eq (tgt := 1420) C dL_law_1415 (by decide) hv333 hv324 (fun b1 => ?_) (fun b1 => ?_)
        · rw [if_pos b1] at h
          refine j_iload C dL_law_1420 (hl.at 1 rfl) ?_
          refine j_if_ne (tgt := 1437) C dL_law_1422 (by decide) hv324 (fun b1 => ?_) (fun b1 => ?_)
          · rw [if_neg b1] at h
            refine j_goto (tgt := 1477) C dL_law_1437 (by decide) ?_
            obtain ⟨z335, g_z335, h⟩ := bd h
            refine k_iinc (k9 := 6) (lv' := [(4, iv z335), (6, iv v330), (5, iv v324), (0, .ref bs), (1, rf b a1), (2, rf b a2), (3, rf b a3)]) C dL_law_1477 hl rfl g_z335 (by decide) rfl (fun hz335 ls hl => ?_)
            refine j_goto (tgt := 23) C dL_law_1480 (by decide) ?_
            exact ih _ _ _ _ _ hz335 h ls (hl.sub [3, 4, 5, 6, 0] rfl)
          · rw [if_pos (Decidable.byContradiction b1)] at h
            refine j_aload_n C dL_law_1425 rfl (hl.at 5 rfl) ?_
            refine j_iconst C dL_law_1426 ?_
            obtain ⟨v336, g_v336, h⟩ := bd h
            refine j_lald C dL_law_1427 (by decide) g_v336 (fun hv336 => ?_)
            refine j_iload C dL_law_1428 (hl.at 0 rfl) ?_
            refine j_i2l C dL_law_1430 hv330 ?_
            refine j_lcmp C dL_law_1431 hv336 hv330 ?_
            refine j_if_eq (tgt := 1437) C dL_law_1432 (by decide) (cmpI_inR _ _) (fun b1 => ?_) (fun b1 => ?_)
            · rw [if_pos b1] at h
              refine j_goto (tgt := 1477) C dL_law_1437 (by decide) ?_
              obtain ⟨z337, g_z337, h⟩ := bd h
              refine k_iinc (k9 := 6) (lv' := [(4, iv z337), (6, iv v330), (5, iv v324), (0, .ref bs), (1, rf b a1), (2, rf b a2), (3, rf b a3)]) C dL_law_1477 hl rfl g_z337 (by decide) rfl (fun hz337 ls hl => ?_)
              refine j_goto (tgt := 23) C dL_law_1480 (by decide) ?_
              exact ih _ _ _ _ _ hz337 h ls (hl.sub [3, 4, 5, 6, 0] rfl)
            · rw [if_neg b1] at h
              refine j_iconst C dL_law_1435 ?_
              cases h
              exact absurd hq1 (by simp)
        · rw [if_neg b1] at h
          refine j_iconst C dL_law_1418 ?_
          cases h
          exact absurd hq1 (by simp)
      rw [if_neg b17] at h
      by_cases b18 : (v3 % 32) = 18
      · rw [if_pos b18] at h
        refine j_tabIn (tgt := 1440) C dL_law_39 hw4 b18 (by decide) (by decide) rfl (by decide) ?_
        refine j_aload_n C dL_law_1440 rfl (hl.at 1 rfl) ?_
        obtain ⟨c340, h⟩ := gd_some h
        obtain ⟨S338, v339, wv339, hc, h⟩ := cM_some h
        refine j_callI C (run_W (As := []) (rest := []) C (m_X5_modules hst hc) cv_RL_149 (by decide) rfl c340 rfl hl (by decide) (by decide) (by decide) dL_law_1441) (fun hv339 => ?_)
        refine j_aload_n C dL_law_1444 rfl (hl.at 2 rfl) ?_
        obtain ⟨c343, h⟩ := gd_some h
        obtain ⟨S341, v342, wv342, hc, h⟩ := cM_some h
        refine j_callI C (run_W (As := []) (rest := [iv v339]) C (m_X6_modules hst hc) cv_RL_152 (by decide) rfl c343 rfl hl (by simp [cat_iv, cat_rf]) (by decide) (by decide) dL_law_1445) (fun hv342 => ?_)
        refine j_icmp_eq (tgt := 1477) C dL_law_1448 (by decide) hv339 hv342 (fun b1 => ?_) (fun b1 => ?_)
        · rw [if_pos b1] at h
          obtain ⟨z344, g_z344, h⟩ := bd h
          refine k_iinc (k9 := 4) (lv' := [(4, iv z344), (0, .ref bs), (1, rf b a1), (2, rf b a2), (3, rf b a3)]) C dL_law_1477 hl rfl g_z344 (by decide) rfl (fun hz344 ls hl => ?_)
          refine j_goto (tgt := 23) C dL_law_1480 (by decide) ?_
          exact ih _ _ _ _ _ hz344 h ls (hl.sub [1, 2, 3, 4, 0] rfl)
        · rw [if_neg b1] at h
          refine j_iconst C dL_law_1451 ?_
          cases h
          exact absurd hq1 (by simp)
      rw [if_neg b18] at h
      by_cases b19 : (v3 % 32) = 19
      · rw [if_pos b19] at h
        refine j_tabIn (tgt := 1453) C dL_law_39 hw4 b19 (by decide) (by decide) rfl (by decide) ?_
        refine j_aload_n C dL_law_1453 rfl (hl.at 1 rfl) ?_
        obtain ⟨c347, h⟩ := gd_some h
        obtain ⟨S345, v346, wv346, hc, h⟩ := cM_some h
        refine j_callI C (run_W (As := []) (rest := []) C (m_X5_kinds hst hc) cv_RL_153 (by decide) rfl c347 rfl hl (by decide) (by decide) (by decide) dL_law_1454) (fun hv346 => ?_)
        refine j_aload_n C dL_law_1457 rfl (hl.at 2 rfl) ?_
        obtain ⟨c350, h⟩ := gd_some h
        obtain ⟨S348, v349, wv349, hc, h⟩ := cM_some h
        refine j_callI C (run_W (As := []) (rest := [iv v346]) C (m_X6_kinds hst hc) cv_RL_156 (by decide) rfl c350 rfl hl (by simp [cat_iv, cat_rf]) (by decide) (by decide) dL_law_1458) (fun hv349 => ?_)
        refine j_icmp_eq (tgt := 1477) C dL_law_1461 (by decide) hv346 hv349 (fun b1 => ?_) (fun b1 => ?_)
        · rw [if_pos b1] at h
          obtain ⟨z351, g_z351, h⟩ := bd h
          refine k_iinc (k9 := 4) (lv' := [(4, iv z351), (0, .ref bs), (1, rf b a1), (2, rf b a2), (3, rf b a3)]) C dL_law_1477 hl rfl g_z351 (by decide) rfl (fun hz351 ls hl => ?_)
          refine j_goto (tgt := 23) C dL_law_1480 (by decide) ?_
          exact ih _ _ _ _ _ hz351 h ls (hl.sub [1, 2, 3, 4, 0] rfl)
        · rw [if_neg b1] at h
          refine j_iconst C dL_law_1464 ?_
          cases h
          exact absurd hq1 (by simp)
      rw [if_neg b19] at h
      by_cases b20 : (v3 % 32) = 20
      · rw [if_pos b20] at h
        refine j_tabIn (tgt := 1466) C dL_law_39 hw4 b20 (by decide) (by decide) rfl (by decide) ?_
        refine j_aload_n C dL_law_1466 rfl (hl.at 1 rfl) ?_
        obtain ⟨c354, h⟩ := gd_some h
        obtain ⟨S352, y353, hc, h⟩ := cN_some h
        refine j_callV C (run_W (As := []) (rest := []) C (m_X5_clear hst hc) cv_RL_157 (by decide) rfl c354 rfl hl (by decide) (by decide) (by decide) dL_law_1467) ?_
        refine j_aload_n C dL_law_1470 rfl (hl.at 2 rfl) ?_
        obtain ⟨c357, h⟩ := gd_some h
        obtain ⟨S355, y356, hc, h⟩ := cN_some h
        refine j_callV C (run_W (As := []) (rest := []) C (m_X6_clear hst hc) cv_RL_160 (by decide) rfl c357 rfl hl (by decide) (by decide) (by decide) dL_law_1471) ?_
        refine j_goto (tgt := 1477) C dL_law_1474 (by decide) ?_
        obtain ⟨z358, g_z358, h⟩ := bd h
        refine k_iinc (k9 := 4) (lv' := [(4, iv z358), (0, .ref bs), (1, rf b a1), (2, rf b a2), (3, rf b a3)]) C dL_law_1477 hl rfl g_z358 (by decide) rfl (fun hz358 ls hl => ?_)
        refine j_goto (tgt := 23) C dL_law_1480 (by decide) ?_
        exact ih _ _ _ _ _ hz358 h ls (hl.sub [1, 2, 3, 4, 0] rfl)
      rw [if_neg b20] at h
      refine j_tabOut (tgt := 1477) C dL_law_39 hw4 (by omega) (by decide) ?_
      obtain ⟨z359, g_z359, h⟩ := bd h
      refine k_iinc (k9 := 4) (lv' := [(4, iv z359), (0, .ref bs), (1, rf b a1), (2, rf b a2), (3, rf b a3)]) C dL_law_1477 hl rfl g_z359 (by decide) rfl (fun hz359 ls hl => ?_)
      refine j_goto (tgt := 23) C dL_law_1480 (by decide) ?_
      exact ih _ _ _ _ _ hz359 h ls (hl.sub [1, 2, 3, 4, 0] rfl)
noncomputable def f_L_law (L : Nat) (xs : Nat → Int32) (S : AS) : Option RS :=
  (nO S 6).bind fun S1 =>
  cN (f_X5_init (some (hn S)) S1) fun S2 =>
  (nO S2 7).bind fun S4 =>
  cN (f_X6_init (some (hn S2)) S4) fun S5 =>
  (nA S5 13 1).bind fun S7 =>
  f_L_law_23 L xs FU (some (hn S)) (some (hn S2)) (some (hn S5)) 0 S7
set_option maxHeartbeats 4000000 in
set_option maxRecDepth 100000 in
theorem w_L_law {p : Program} {l : Launch} {e : Env} {R : Room} {s : State} {m : MethodId} {args : Array Value} {below : List Frame} {meth : Method} {c : Code} {b : Nat} {D : va_G} {dA : Nat → ClassId} {S0 : AS} {q : RS} {Q : State → Prop} {bs L : Nat} {xs : Nat → Int32} (C : hp_C p l e R s m args below meth c b D dA S0 RL cL_law 7 2048 84000) (hN : hp_N s) (hX : va_X bs L xs s s.heap) (hbs : bs < b) (hL : L ≤ 2560) (hq1 : q.1 = (0, 1, none)) (hend : ∀ (S : AS) (pc : Nat) (ls : Array Slot), decode cL_law pc = .ok (.ireturn, 1) → hp_J p l e R s m args below meth c b D dA S0 Q S pc ls [iv 1]) : ∀ (S : AS), f_L_law L xs S = some q → ∀ ls : Array Slot, hp_L ls 7 [(0, .ref bs)] → hp_J p l e R s m args below meth c b D dA S0 Q S 0 ls [] := by
  have hst : l.stackTraces = false := C.2.2.2.2.2.2.2.2.2.2.1
  intro S h ls hl
  unfold f_L_law at h
  obtain ⟨S1, g_S1, h⟩ := bd h
  refine j_new C dL_law_0 nw_RL_8 g_S1 ?_
  refine j_dup C dL_law_3 (cat_rf _ _) ?_
  obtain ⟨S2, y3, hc, h⟩ := cN_some h
  refine j_callV C (run_I (As := []) (rest := [rf b (some (hn S))]) C (m_X5_init hst hc) rfl ci_RL_80 rfl hl.1.1 (by simp [cat_iv, cat_rf]) (by decide) (by decide) dL_law_4) ?_
  refine k_astore_n (lv' := [(1, rf b (some (hn S))), (0, .ref bs)]) C dL_law_7 rfl hl (by decide) rfl (fun ls hl => ?_)
  obtain ⟨S4, g_S4, h⟩ := bd h
  refine j_new C dL_law_8 nw_RL_81 g_S4 ?_
  refine j_dup C dL_law_11 (cat_rf _ _) ?_
  obtain ⟨S5, y6, hc, h⟩ := cN_some h
  refine j_callV C (run_I (As := []) (rest := [rf b (some (hn S2))]) C (m_X6_init hst hc) rfl ci_RL_83 rfl hl.1.1 (by simp [cat_iv, cat_rf]) (by decide) (by decide) dL_law_12) ?_
  refine k_astore_n (lv' := [(2, rf b (some (hn S2))), (1, rf b (some (hn S))), (0, .ref bs)]) C dL_law_15 rfl hl (by decide) rfl (fun ls hl => ?_)
  refine j_iconst C dL_law_16 ?_
  obtain ⟨S7, g_S7, h⟩ := bd h
  refine j_newa C dL_law_17 (Or.inr (Or.inr ⟨rfl, rfl⟩)) ac_13 (by decide) g_S7 ?_
  refine k_astore_n (lv' := [(3, rf b (some (hn S5))), (2, rf b (some (hn S2))), (1, rf b (some (hn S))), (0, .ref bs)]) C dL_law_19 rfl hl (by decide) rfl (fun ls hl => ?_)
  refine j_iconst C dL_law_20 ?_
  refine k_istore (lv' := [(4, iv 0), (3, rf b (some (hn S5))), (2, rf b (some (hn S2))), (1, rf b (some (hn S))), (0, .ref bs)]) C dL_law_21 hl (by decide) rfl (fun ls hl => ?_)
  exact w_L_law_23 C hN hX hbs hL hq1 hend FU _ _ _ _ _ (by decide) h ls (hl.sub [4, 3, 2, 1, 0] rfl)
