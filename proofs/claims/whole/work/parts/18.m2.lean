noncomputable def f_X6_copy_264 (n : Nat) (a0 : Option Nat) (x1 : Int) (x2 : Int) (x3 : Int) (S : AS) : Option RS := match n with
  | 0 => none
  | n + 1 =>
    if 1536 ≤ x3 then
      rI x2 S
    else
      (gR S a0 7 12).bind fun o1 =>
      (chk (1536 * x2)).bind fun z2 =>
      (chk (z2 + x3)).bind fun z3 =>
      (gR S a0 7 12).bind fun o4 =>
      (chk (1536 * x1)).bind fun z5 =>
      (chk (z5 + x3)).bind fun z6 =>
      (aI S o4 8 z6).bind fun v7 =>
      (sI S o1 8 z3 v7).bind fun S8 =>
      (chk (x3 + 1)).bind fun z9 =>
      f_X6_copy_264 n a0 x1 x2 z9 S8
set_option maxHeartbeats 4000000 in
set_option maxRecDepth 100000 in
theorem w_X6_copy_264 {p : Program} {l : Launch} {e : Env} {R : Room} {s : State} {m : MethodId} {args : Array Value} {below : List Frame} {meth : Method} {c : Code} {b : Nat} {D : va_G} {dA : Nat → ClassId} {S0 : AS} {q : RS} (C : hp_C p l e R s m args below meth c b D dA S0 RX6 cX6_copy 4 7 38) (hT : ∀ x ∈ c.exceptionTable.toList, False) (hnm : meth.name = "copy") (hr : meth.sig.returnType = (some .int)) : ∀ (n : Nat), ∀ (a0 : Option Nat) (x1 : Int) (x2 : Int) (x3 : Int) (S : AS), inR x1 → inR x2 → inR x3 → f_X6_copy_264 n a0 x1 x2 x3 S = some q → ∀ ls : Array Slot, hp_L ls 4 [(0, rf b a0), (1, iv x1), (2, iv x2), (3, iv x3)] → hp_J p l e R s m args below meth c b D dA S0 (hp_Q below b D dA S0 1 q args s) S 264 ls [] := by
  have hst : l.stackTraces = false := C.2.2.2.2.2.2.2.2.2.2.1
  intro n
  induction n with
  | zero =>
    intro a0 x1 x2 x3 S hx1 hx2 hx3 h
    cases h
  | succ n ih =>
    intro a0 x1 x2 x3 S hx1 hx2 hx3 h ls hl
    unfold f_X6_copy_264 at h
    refine j_iload_n C dX6_copy_264 rfl (hl.at 3 rfl) ?_
    refine j_sipush (x := 1536) C dX6_copy_265 (by decide) ?_
    refine j_icmp_ge (tgt := 301) C dX6_copy_268 (by decide) hx3 (by decide) (fun b1 => ?_) (fun b1 => ?_)
    · rw [if_pos b1] at h
      refine j_iload_n C dX6_copy_301 rfl (hl.at 2 rfl) ?_
      exact j_iret C dX6_copy_302 hr hx2 h
    · rw [if_neg b1] at h
      refine j_aload_n C dX6_copy_271 rfl (hl.at 0 rfl) ?_
      obtain ⟨o1, g_o1, h⟩ := bd h
      refine j_gR C dX6_copy_272 fl_RX6_40 rfl g_o1 ?_
      refine j_sipush (x := 1536) C dX6_copy_275 (by decide) ?_
      refine j_iload_n C dX6_copy_278 rfl (hl.at 2 rfl) ?_
      obtain ⟨z2, g_z2, h⟩ := bd h
      refine j_imul C dX6_copy_279 g_z2 (fun hz2 => ?_)
      refine j_iload_n C dX6_copy_280 rfl (hl.at 3 rfl) ?_
      obtain ⟨z3, g_z3, h⟩ := bd h
      refine j_iadd C dX6_copy_281 g_z3 (fun hz3 => ?_)
      refine j_aload_n C dX6_copy_282 rfl (hl.at 0 rfl) ?_
      obtain ⟨o4, g_o4, h⟩ := bd h
      refine j_gR C dX6_copy_283 fl_RX6_40 rfl g_o4 ?_
      refine j_sipush (x := 1536) C dX6_copy_286 (by decide) ?_
      refine j_iload_n C dX6_copy_289 rfl (hl.at 1 rfl) ?_
      obtain ⟨z5, g_z5, h⟩ := bd h
      refine j_imul C dX6_copy_290 g_z5 (fun hz5 => ?_)
      refine j_iload_n C dX6_copy_291 rfl (hl.at 3 rfl) ?_
      obtain ⟨z6, g_z6, h⟩ := bd h
      refine j_iadd C dX6_copy_292 g_z6 (fun hz6 => ?_)
      obtain ⟨v7, g_v7, h⟩ := bd h
      refine j_iald C dX6_copy_293 hz6 g_v7 (fun hv7 => ?_)
      obtain ⟨S8, g_S8, h⟩ := bd h
      refine j_iast C dX6_copy_294 hz3 hv7 g_S8 ?_
      obtain ⟨z9, g_z9, h⟩ := bd h
      refine k_iinc (k9 := 3) (lv' := [(3, iv z9), (0, rf b a0), (1, iv x1), (2, iv x2)]) C dX6_copy_295 hl rfl g_z9 (by decide) rfl (fun hz9 ls hl => ?_)
      refine j_goto (tgt := 264) C dX6_copy_298 (by decide) ?_
      exact ih _ _ _ _ _ hx1 hx2 hz9 h ls (hl.sub [1, 2, 3, 0] rfl)
noncomputable def f_X6_copy_206 (n : Nat) (a0 : Option Nat) (x1 : Int) (x2 : Int) (x3 : Int) (S : AS) : Option RS := match n with
  | 0 => none
  | n + 1 =>
    if 64 ≤ x3 then
      f_X6_copy_264 FU a0 x1 x2 0 S
    else
      (gR S a0 7 6).bind fun o1 =>
      (chk (64 * x2)).bind fun z2 =>
      (chk (z2 + x3)).bind fun z3 =>
      (gR S a0 7 6).bind fun o4 =>
      (chk (64 * x1)).bind fun z5 =>
      (chk (z5 + x3)).bind fun z6 =>
      (aI S o4 8 z6).bind fun v7 =>
      (sI S o1 8 z3 v7).bind fun S8 =>
      (gR S8 a0 7 11).bind fun o9 =>
      (chk (64 * x2)).bind fun z10 =>
      (chk (z10 + x3)).bind fun z11 =>
      (gR S8 a0 7 11).bind fun o12 =>
      (chk (64 * x1)).bind fun z13 =>
      (chk (z13 + x3)).bind fun z14 =>
      (aI S8 o12 8 z14).bind fun v15 =>
      (sI S8 o9 8 z11 v15).bind fun S16 =>
      (chk (x3 + 1)).bind fun z17 =>
      f_X6_copy_206 n a0 x1 x2 z17 S16
set_option maxHeartbeats 4000000 in
set_option maxRecDepth 100000 in
theorem w_X6_copy_206 {p : Program} {l : Launch} {e : Env} {R : Room} {s : State} {m : MethodId} {args : Array Value} {below : List Frame} {meth : Method} {c : Code} {b : Nat} {D : va_G} {dA : Nat → ClassId} {S0 : AS} {q : RS} (C : hp_C p l e R s m args below meth c b D dA S0 RX6 cX6_copy 4 7 38) (hT : ∀ x ∈ c.exceptionTable.toList, False) (hnm : meth.name = "copy") (hr : meth.sig.returnType = (some .int)) : ∀ (n : Nat), ∀ (a0 : Option Nat) (x1 : Int) (x2 : Int) (x3 : Int) (S : AS), inR x1 → inR x2 → inR x3 → f_X6_copy_206 n a0 x1 x2 x3 S = some q → ∀ ls : Array Slot, hp_L ls 4 [(0, rf b a0), (1, iv x1), (2, iv x2), (3, iv x3)] → hp_J p l e R s m args below meth c b D dA S0 (hp_Q below b D dA S0 1 q args s) S 206 ls [] := by
  have hst : l.stackTraces = false := C.2.2.2.2.2.2.2.2.2.2.1
  intro n
  induction n with
  | zero =>
    intro a0 x1 x2 x3 S hx1 hx2 hx3 h
    cases h
  | succ n ih =>
    intro a0 x1 x2 x3 S hx1 hx2 hx3 h ls hl
    unfold f_X6_copy_206 at h
    refine j_iload_n C dX6_copy_206 rfl (hl.at 3 rfl) ?_
    refine j_bipush (x := 64) C dX6_copy_207 (by decide) ?_
    refine j_icmp_ge (tgt := 262) C dX6_copy_209 (by decide) hx3 (by decide) (fun b1 => ?_) (fun b1 => ?_)
    · rw [if_pos b1] at h
      refine j_iconst C dX6_copy_262 ?_
      refine k_istore_n (lv' := [(3, iv 0), (0, rf b a0), (1, iv x1), (2, iv x2)]) C dX6_copy_263 rfl hl (by decide) rfl (fun ls hl => ?_)
      exact w_X6_copy_264 C hT hnm hr FU _ _ _ _ _ hx1 hx2 (by decide) h ls (hl.sub [1, 2, 3, 0] rfl)
    · rw [if_neg b1] at h
      refine j_aload_n C dX6_copy_212 rfl (hl.at 0 rfl) ?_
      obtain ⟨o1, g_o1, h⟩ := bd h
      refine j_gR C dX6_copy_213 fl_RX6_23 rfl g_o1 ?_
      refine j_bipush (x := 64) C dX6_copy_216 (by decide) ?_
      refine j_iload_n C dX6_copy_218 rfl (hl.at 2 rfl) ?_
      obtain ⟨z2, g_z2, h⟩ := bd h
      refine j_imul C dX6_copy_219 g_z2 (fun hz2 => ?_)
      refine j_iload_n C dX6_copy_220 rfl (hl.at 3 rfl) ?_
      obtain ⟨z3, g_z3, h⟩ := bd h
      refine j_iadd C dX6_copy_221 g_z3 (fun hz3 => ?_)
      refine j_aload_n C dX6_copy_222 rfl (hl.at 0 rfl) ?_
      obtain ⟨o4, g_o4, h⟩ := bd h
      refine j_gR C dX6_copy_223 fl_RX6_23 rfl g_o4 ?_
      refine j_bipush (x := 64) C dX6_copy_226 (by decide) ?_
      refine j_iload_n C dX6_copy_228 rfl (hl.at 1 rfl) ?_
      obtain ⟨z5, g_z5, h⟩ := bd h
      refine j_imul C dX6_copy_229 g_z5 (fun hz5 => ?_)
      refine j_iload_n C dX6_copy_230 rfl (hl.at 3 rfl) ?_
      obtain ⟨z6, g_z6, h⟩ := bd h
      refine j_iadd C dX6_copy_231 g_z6 (fun hz6 => ?_)
      obtain ⟨v7, g_v7, h⟩ := bd h
      refine j_iald C dX6_copy_232 hz6 g_v7 (fun hv7 => ?_)
      obtain ⟨S8, g_S8, h⟩ := bd h
      refine j_iast C dX6_copy_233 hz3 hv7 g_S8 ?_
      refine j_aload_n C dX6_copy_234 rfl (hl.at 0 rfl) ?_
      obtain ⟨o9, g_o9, h⟩ := bd h
      refine j_gR C dX6_copy_235 fl_RX6_36 rfl g_o9 ?_
      refine j_bipush (x := 64) C dX6_copy_238 (by decide) ?_
      refine j_iload_n C dX6_copy_240 rfl (hl.at 2 rfl) ?_
      obtain ⟨z10, g_z10, h⟩ := bd h
      refine j_imul C dX6_copy_241 g_z10 (fun hz10 => ?_)
      refine j_iload_n C dX6_copy_242 rfl (hl.at 3 rfl) ?_
      obtain ⟨z11, g_z11, h⟩ := bd h
      refine j_iadd C dX6_copy_243 g_z11 (fun hz11 => ?_)
      refine j_aload_n C dX6_copy_244 rfl (hl.at 0 rfl) ?_
      obtain ⟨o12, g_o12, h⟩ := bd h
      refine j_gR C dX6_copy_245 fl_RX6_36 rfl g_o12 ?_
      refine j_bipush (x := 64) C dX6_copy_248 (by decide) ?_
      refine j_iload_n C dX6_copy_250 rfl (hl.at 1 rfl) ?_
      obtain ⟨z13, g_z13, h⟩ := bd h
      refine j_imul C dX6_copy_251 g_z13 (fun hz13 => ?_)
      refine j_iload_n C dX6_copy_252 rfl (hl.at 3 rfl) ?_
      obtain ⟨z14, g_z14, h⟩ := bd h
      refine j_iadd C dX6_copy_253 g_z14 (fun hz14 => ?_)
      obtain ⟨v15, g_v15, h⟩ := bd h
      refine j_iald C dX6_copy_254 hz14 g_v15 (fun hv15 => ?_)
      obtain ⟨S16, g_S16, h⟩ := bd h
      refine j_iast C dX6_copy_255 hz11 hv15 g_S16 ?_
      obtain ⟨z17, g_z17, h⟩ := bd h
      refine k_iinc (k9 := 3) (lv' := [(3, iv z17), (0, rf b a0), (1, iv x1), (2, iv x2)]) C dX6_copy_256 hl rfl g_z17 (by decide) rfl (fun hz17 ls hl => ?_)
      refine j_goto (tgt := 206) C dX6_copy_259 (by decide) ?_
      exact ih _ _ _ _ _ hx1 hx2 hz17 h ls (hl.sub [1, 2, 3, 0] rfl)
noncomputable def f_X6_copy_167 (n : Nat) (a0 : Option Nat) (x1 : Int) (x2 : Int) (x3 : Int) (S : AS) : Option RS := match n with
  | 0 => none
  | n + 1 =>
    if 8320 ≤ x3 then
      f_X6_copy_206 FU a0 x1 x2 0 S
    else
      (gR S a0 7 10).bind fun o1 =>
      (chk (8320 * x2)).bind fun z2 =>
      (chk (z2 + x3)).bind fun z3 =>
      (gR S a0 7 10).bind fun o4 =>
      (chk (8320 * x1)).bind fun z5 =>
      (chk (z5 + x3)).bind fun z6 =>
      (aI S o4 8 z6).bind fun v7 =>
      (sI S o1 8 z3 v7).bind fun S8 =>
      (chk (x3 + 1)).bind fun z9 =>
      f_X6_copy_167 n a0 x1 x2 z9 S8
set_option maxHeartbeats 4000000 in
set_option maxRecDepth 100000 in
theorem w_X6_copy_167 {p : Program} {l : Launch} {e : Env} {R : Room} {s : State} {m : MethodId} {args : Array Value} {below : List Frame} {meth : Method} {c : Code} {b : Nat} {D : va_G} {dA : Nat → ClassId} {S0 : AS} {q : RS} (C : hp_C p l e R s m args below meth c b D dA S0 RX6 cX6_copy 4 7 38) (hT : ∀ x ∈ c.exceptionTable.toList, False) (hnm : meth.name = "copy") (hr : meth.sig.returnType = (some .int)) : ∀ (n : Nat), ∀ (a0 : Option Nat) (x1 : Int) (x2 : Int) (x3 : Int) (S : AS), inR x1 → inR x2 → inR x3 → f_X6_copy_167 n a0 x1 x2 x3 S = some q → ∀ ls : Array Slot, hp_L ls 4 [(0, rf b a0), (1, iv x1), (2, iv x2), (3, iv x3)] → hp_J p l e R s m args below meth c b D dA S0 (hp_Q below b D dA S0 1 q args s) S 167 ls [] := by
  have hst : l.stackTraces = false := C.2.2.2.2.2.2.2.2.2.2.1
  intro n
  induction n with
  | zero =>
    intro a0 x1 x2 x3 S hx1 hx2 hx3 h
    cases h
  | succ n ih =>
    intro a0 x1 x2 x3 S hx1 hx2 hx3 h ls hl
    unfold f_X6_copy_167 at h
    refine j_iload_n C dX6_copy_167 rfl (hl.at 3 rfl) ?_
    refine j_sipush (x := 8320) C dX6_copy_168 (by decide) ?_
    refine j_icmp_ge (tgt := 204) C dX6_copy_171 (by decide) hx3 (by decide) (fun b1 => ?_) (fun b1 => ?_)
    · rw [if_pos b1] at h
      refine j_iconst C dX6_copy_204 ?_
      refine k_istore_n (lv' := [(3, iv 0), (0, rf b a0), (1, iv x1), (2, iv x2)]) C dX6_copy_205 rfl hl (by decide) rfl (fun ls hl => ?_)
      exact w_X6_copy_206 C hT hnm hr FU _ _ _ _ _ hx1 hx2 (by decide) h ls (hl.sub [1, 2, 3, 0] rfl)
    · rw [if_neg b1] at h
      refine j_aload_n C dX6_copy_174 rfl (hl.at 0 rfl) ?_
      obtain ⟨o1, g_o1, h⟩ := bd h
      refine j_gR C dX6_copy_175 fl_RX6_33 rfl g_o1 ?_
      refine j_sipush (x := 8320) C dX6_copy_178 (by decide) ?_
      refine j_iload_n C dX6_copy_181 rfl (hl.at 2 rfl) ?_
      obtain ⟨z2, g_z2, h⟩ := bd h
      refine j_imul C dX6_copy_182 g_z2 (fun hz2 => ?_)
      refine j_iload_n C dX6_copy_183 rfl (hl.at 3 rfl) ?_
      obtain ⟨z3, g_z3, h⟩ := bd h
      refine j_iadd C dX6_copy_184 g_z3 (fun hz3 => ?_)
      refine j_aload_n C dX6_copy_185 rfl (hl.at 0 rfl) ?_
      obtain ⟨o4, g_o4, h⟩ := bd h
      refine j_gR C dX6_copy_186 fl_RX6_33 rfl g_o4 ?_
      refine j_sipush (x := 8320) C dX6_copy_189 (by decide) ?_
      refine j_iload_n C dX6_copy_192 rfl (hl.at 1 rfl) ?_
      obtain ⟨z5, g_z5, h⟩ := bd h
      refine j_imul C dX6_copy_193 g_z5 (fun hz5 => ?_)
      refine j_iload_n C dX6_copy_194 rfl (hl.at 3 rfl) ?_
      obtain ⟨z6, g_z6, h⟩ := bd h
      refine j_iadd C dX6_copy_195 g_z6 (fun hz6 => ?_)
      obtain ⟨v7, g_v7, h⟩ := bd h
      refine j_iald C dX6_copy_196 hz6 g_v7 (fun hv7 => ?_)
      obtain ⟨S8, g_S8, h⟩ := bd h
      refine j_iast C dX6_copy_197 hz3 hv7 g_S8 ?_
      obtain ⟨z9, g_z9, h⟩ := bd h
      refine k_iinc (k9 := 3) (lv' := [(3, iv z9), (0, rf b a0), (1, iv x1), (2, iv x2)]) C dX6_copy_198 hl rfl g_z9 (by decide) rfl (fun hz9 ls hl => ?_)
      refine j_goto (tgt := 167) C dX6_copy_201 (by decide) ?_
      exact ih _ _ _ _ _ hx1 hx2 hz9 h ls (hl.sub [1, 2, 3, 0] rfl)
noncomputable def f_X6_copy_109 (n : Nat) (a0 : Option Nat) (x1 : Int) (x2 : Int) (x3 : Int) (S : AS) : Option RS := match n with
  | 0 => none
  | n + 1 =>
    if 16 ≤ x3 then
      f_X6_copy_167 FU a0 x1 x2 0 S
    else
      (gR S a0 7 3).bind fun o1 =>
      (chk (16 * x2)).bind fun z2 =>
      (chk (z2 + x3)).bind fun z3 =>
      (gR S a0 7 3).bind fun o4 =>
      (chk (16 * x1)).bind fun z5 =>
      (chk (z5 + x3)).bind fun z6 =>
      (aI S o4 8 z6).bind fun v7 =>
      (sI S o1 8 z3 v7).bind fun S8 =>
      (gR S8 a0 7 4).bind fun o9 =>
      (chk (16 * x2)).bind fun z10 =>
      (chk (z10 + x3)).bind fun z11 =>
      (gR S8 a0 7 4).bind fun o12 =>
      (chk (16 * x1)).bind fun z13 =>
      (chk (z13 + x3)).bind fun z14 =>
      (aI S8 o12 9 z14).bind fun v15 =>
      (sZ S8 o9 z11 v15).bind fun S16 =>
      (chk (x3 + 1)).bind fun z17 =>
      f_X6_copy_109 n a0 x1 x2 z17 S16
set_option maxHeartbeats 4000000 in
set_option maxRecDepth 100000 in
theorem w_X6_copy_109 {p : Program} {l : Launch} {e : Env} {R : Room} {s : State} {m : MethodId} {args : Array Value} {below : List Frame} {meth : Method} {c : Code} {b : Nat} {D : va_G} {dA : Nat → ClassId} {S0 : AS} {q : RS} (C : hp_C p l e R s m args below meth c b D dA S0 RX6 cX6_copy 4 7 38) (hT : ∀ x ∈ c.exceptionTable.toList, False) (hnm : meth.name = "copy") (hr : meth.sig.returnType = (some .int)) : ∀ (n : Nat), ∀ (a0 : Option Nat) (x1 : Int) (x2 : Int) (x3 : Int) (S : AS), inR x1 → inR x2 → inR x3 → f_X6_copy_109 n a0 x1 x2 x3 S = some q → ∀ ls : Array Slot, hp_L ls 4 [(0, rf b a0), (1, iv x1), (2, iv x2), (3, iv x3)] → hp_J p l e R s m args below meth c b D dA S0 (hp_Q below b D dA S0 1 q args s) S 109 ls [] := by
  have hst : l.stackTraces = false := C.2.2.2.2.2.2.2.2.2.2.1
  intro n
  induction n with
  | zero =>
    intro a0 x1 x2 x3 S hx1 hx2 hx3 h
    cases h
  | succ n ih =>
    intro a0 x1 x2 x3 S hx1 hx2 hx3 h ls hl
    unfold f_X6_copy_109 at h
    refine j_iload_n C dX6_copy_109 rfl (hl.at 3 rfl) ?_
    refine j_bipush (x := 16) C dX6_copy_110 (by decide) ?_
    refine j_icmp_ge (tgt := 165) C dX6_copy_112 (by decide) hx3 (by decide) (fun b1 => ?_) (fun b1 => ?_)
    · rw [if_pos b1] at h
      refine j_iconst C dX6_copy_165 ?_
      refine k_istore_n (lv' := [(3, iv 0), (0, rf b a0), (1, iv x1), (2, iv x2)]) C dX6_copy_166 rfl hl (by decide) rfl (fun ls hl => ?_)
      exact w_X6_copy_167 C hT hnm hr FU _ _ _ _ _ hx1 hx2 (by decide) h ls (hl.sub [1, 2, 3, 0] rfl)
    · rw [if_neg b1] at h
      refine j_aload_n C dX6_copy_115 rfl (hl.at 0 rfl) ?_
      obtain ⟨o1, g_o1, h⟩ := bd h
      refine j_gR C dX6_copy_116 fl_RX6_13 rfl g_o1 ?_
      refine j_bipush (x := 16) C dX6_copy_119 (by decide) ?_
      refine j_iload_n C dX6_copy_121 rfl (hl.at 2 rfl) ?_
      obtain ⟨z2, g_z2, h⟩ := bd h
      refine j_imul C dX6_copy_122 g_z2 (fun hz2 => ?_)
      refine j_iload_n C dX6_copy_123 rfl (hl.at 3 rfl) ?_
      obtain ⟨z3, g_z3, h⟩ := bd h
      refine j_iadd C dX6_copy_124 g_z3 (fun hz3 => ?_)
      refine j_aload_n C dX6_copy_125 rfl (hl.at 0 rfl) ?_
      obtain ⟨o4, g_o4, h⟩ := bd h
      refine j_gR C dX6_copy_126 fl_RX6_13 rfl g_o4 ?_
      refine j_bipush (x := 16) C dX6_copy_129 (by decide) ?_
      refine j_iload_n C dX6_copy_131 rfl (hl.at 1 rfl) ?_
      obtain ⟨z5, g_z5, h⟩ := bd h
      refine j_imul C dX6_copy_132 g_z5 (fun hz5 => ?_)
      refine j_iload_n C dX6_copy_133 rfl (hl.at 3 rfl) ?_
      obtain ⟨z6, g_z6, h⟩ := bd h
      refine j_iadd C dX6_copy_134 g_z6 (fun hz6 => ?_)
      obtain ⟨v7, g_v7, h⟩ := bd h
      refine j_iald C dX6_copy_135 hz6 g_v7 (fun hv7 => ?_)
      obtain ⟨S8, g_S8, h⟩ := bd h
      refine j_iast C dX6_copy_136 hz3 hv7 g_S8 ?_
      refine j_aload_n C dX6_copy_137 rfl (hl.at 0 rfl) ?_
      obtain ⟨o9, g_o9, h⟩ := bd h
      refine j_gR C dX6_copy_138 fl_RX6_16 rfl g_o9 ?_
      refine j_bipush (x := 16) C dX6_copy_141 (by decide) ?_
      refine j_iload_n C dX6_copy_143 rfl (hl.at 2 rfl) ?_
      obtain ⟨z10, g_z10, h⟩ := bd h
      refine j_imul C dX6_copy_144 g_z10 (fun hz10 => ?_)
      refine j_iload_n C dX6_copy_145 rfl (hl.at 3 rfl) ?_
      obtain ⟨z11, g_z11, h⟩ := bd h
      refine j_iadd C dX6_copy_146 g_z11 (fun hz11 => ?_)
      refine j_aload_n C dX6_copy_147 rfl (hl.at 0 rfl) ?_
      obtain ⟨o12, g_o12, h⟩ := bd h
      refine j_gR C dX6_copy_148 fl_RX6_16 rfl g_o12 ?_
      refine j_bipush (x := 16) C dX6_copy_151 (by decide) ?_
      refine j_iload_n C dX6_copy_153 rfl (hl.at 1 rfl) ?_
      obtain ⟨z13, g_z13, h⟩ := bd h
      refine j_imul C dX6_copy_154 g_z13 (fun hz13 => ?_)
      refine j_iload_n C dX6_copy_155 rfl (hl.at 3 rfl) ?_
      obtain ⟨z14, g_z14, h⟩ := bd h
      refine j_iadd C dX6_copy_156 g_z14 (fun hz14 => ?_)
      obtain ⟨v15, g_v15, h⟩ := bd h
      refine j_zald C dX6_copy_157 hz14 g_v15 (fun hv15 => ?_)
      obtain ⟨S16, g_S16, h⟩ := bd h
      refine j_zast C dX6_copy_158 hz11 g_S16 ?_
      obtain ⟨z17, g_z17, h⟩ := bd h
      refine k_iinc (k9 := 3) (lv' := [(3, iv z17), (0, rf b a0), (1, iv x1), (2, iv x2)]) C dX6_copy_159 hl rfl g_z17 (by decide) rfl (fun hz17 ls hl => ?_)
      refine j_goto (tgt := 109) C dX6_copy_162 (by decide) ?_
      exact ih _ _ _ _ _ hx1 hx2 hz17 h ls (hl.sub [1, 2, 3, 0] rfl)
noncomputable def f_X6_copy_31 (a0 : Option Nat) (x1 : Int) (t0 : Int) (t1 : Int) (u2 : Option Nat) (S : AS) : Option RS :=
  gd (isK S u2 7) <|
  cI (f_X6_refused u2 t1 t0 S) fun v2 S1 =>
  if v2 = 0 then
    (gI S1 a0 7 1).bind fun v4 =>
    gd (isK S1 a0 7) <|
    cV (f_X6_begin a0 v4 S1) fun S5 =>
    (gI S5 a0 7 1).bind fun v8 =>
    (chk (v8 + 1)).bind fun z9 =>
    (pI S5 a0 7 1 z9).bind fun S10 =>
    (gR S10 a0 7 2).bind fun o11 =>
    (gR S10 a0 7 2).bind fun o12 =>
    (aI S10 o12 8 x1).bind fun v13 =>
    (sI S10 o11 8 v4 v13).bind fun S14 =>
    (gR S14 a0 7 5).bind fun o15 =>
    (gR S14 a0 7 5).bind fun o16 =>
    (aI S14 o16 8 x1).bind fun v17 =>
    (sI S14 o15 8 v4 v17).bind fun S18 =>
    (gR S18 a0 7 7).bind fun o19 =>
    (gR S18 a0 7 7).bind fun o20 =>
    (aI S18 o20 8 x1).bind fun v21 =>
    (sI S18 o19 8 v4 v21).bind fun S22 =>
    (gR S22 a0 7 8).bind fun o23 =>
    (gR S22 a0 7 8).bind fun o24 =>
    (aI S22 o24 8 x1).bind fun v25 =>
    (sI S22 o23 8 v4 v25).bind fun S26 =>
    f_X6_copy_109 FU a0 x1 v4 0 S26
  else
    rI 0 S1
set_option maxHeartbeats 4000000 in
set_option maxRecDepth 100000 in
theorem w_X6_copy_31 {p : Program} {l : Launch} {e : Env} {R : Room} {s : State} {m : MethodId} {args : Array Value} {below : List Frame} {meth : Method} {c : Code} {b : Nat} {D : va_G} {dA : Nat → ClassId} {S0 : AS} {q : RS} (C : hp_C p l e R s m args below meth c b D dA S0 RX6 cX6_copy 4 7 38) (hT : ∀ x ∈ c.exceptionTable.toList, False) (hnm : meth.name = "copy") (hr : meth.sig.returnType = (some .int)) : ∀ (a0 : Option Nat) (x1 : Int) (t0 : Int) (t1 : Int) (u2 : Option Nat) (S : AS), inR x1 → inR t0 → inR t1 → f_X6_copy_31 a0 x1 t0 t1 u2 S = some q → ∀ ls : Array Slot, hp_L ls 4 [(0, rf b a0), (1, iv x1)] → hp_J p l e R s m args below meth c b D dA S0 (hp_Q below b D dA S0 1 q args s) S 31 ls [iv t0, iv t1, rf b u2] := by
  have hst : l.stackTraces = false := C.2.2.2.2.2.2.2.2.2.2.1
  intro a0 x1 t0 t1 u2 S hx1 ht0 ht1 h ls hl
  unfold f_X6_copy_31 at h
  obtain ⟨c3, h⟩ := gd_some h
  rcases cI_some h with ⟨S1, v2, wv2, hc, h⟩ | ⟨hc, hne⟩
  · refine j_callI C (run_W (As := [iv t1, iv t0]) (rest := []) C (m_X6_refused hst ht1 ht0 hc) cv_RX6_107 (by decide) rfl c3 rfl hl (by decide) (by decide) (by decide) dX6_copy_31) (fun hv2 => ?_)
    refine j_if_eq (tgt := 39) C dX6_copy_34 (by decide) hv2 (fun b1 => ?_) (fun b1 => ?_)
    · rw [if_pos b1] at h
      refine j_aload_n C dX6_copy_39 rfl (hl.at 0 rfl) ?_
      obtain ⟨v4, g_v4, h⟩ := bd h
      refine j_gI C dX6_copy_40 fl_RX6_89 (Or.inl rfl) g_v4 (fun hv4 => ?_)
      refine k_istore_n (lv' := [(2, iv v4), (0, rf b a0), (1, iv x1)]) C dX6_copy_43 rfl hl (by decide) rfl (fun ls hl => ?_)
      refine j_aload_n C dX6_copy_44 rfl (hl.at 1 rfl) ?_
      refine j_iload_n C dX6_copy_45 rfl (hl.at 0 rfl) ?_
      obtain ⟨c7, h⟩ := gd_some h
      rcases cV_some h with ⟨S5, y6, hc, h⟩ | ⟨hc, hne⟩
      · refine j_callV C (run_W (As := [iv v4]) (rest := []) C (m_X6_begin hst hv4 hc) cv_RX6_92 (by decide) rfl c7 rfl hl (by decide) (by decide) (by decide) dX6_copy_46) ?_
        refine j_aload_n C dX6_copy_49 rfl (hl.at 1 rfl) ?_
        refine j_dup C dX6_copy_50 (cat_rf _ _) ?_
        obtain ⟨v8, g_v8, h⟩ := bd h
        refine j_gI C dX6_copy_51 fl_RX6_89 (Or.inl rfl) g_v8 (fun hv8 => ?_)
        refine j_iconst C dX6_copy_54 ?_
        obtain ⟨z9, g_z9, h⟩ := bd h
        refine j_iadd C dX6_copy_55 g_z9 (fun hz9 => ?_)
        obtain ⟨S10, g_S10, h⟩ := bd h
        refine j_pI C dX6_copy_56 fl_RX6_89 (Or.inl rfl) rfl hz9 g_S10 ?_
        refine j_aload_n C dX6_copy_59 rfl (hl.at 1 rfl) ?_
        obtain ⟨o11, g_o11, h⟩ := bd h
        refine j_gR C dX6_copy_60 fl_RX6_7 rfl g_o11 ?_
        refine j_iload_n C dX6_copy_63 rfl (hl.at 0 rfl) ?_
        refine j_aload_n C dX6_copy_64 rfl (hl.at 1 rfl) ?_
        obtain ⟨o12, g_o12, h⟩ := bd h
        refine j_gR C dX6_copy_65 fl_RX6_7 rfl g_o12 ?_
        refine j_iload_n C dX6_copy_68 rfl (hl.at 2 rfl) ?_
        obtain ⟨v13, g_v13, h⟩ := bd h
        refine j_iald C dX6_copy_69 hx1 g_v13 (fun hv13 => ?_)
        obtain ⟨S14, g_S14, h⟩ := bd h
        refine j_iast C dX6_copy_70 hv4 hv13 g_S14 ?_
        refine j_aload_n C dX6_copy_71 rfl (hl.at 1 rfl) ?_
        obtain ⟨o15, g_o15, h⟩ := bd h
        refine j_gR C dX6_copy_72 fl_RX6_20 rfl g_o15 ?_
        refine j_iload_n C dX6_copy_75 rfl (hl.at 0 rfl) ?_
        refine j_aload_n C dX6_copy_76 rfl (hl.at 1 rfl) ?_
        obtain ⟨o16, g_o16, h⟩ := bd h
        refine j_gR C dX6_copy_77 fl_RX6_20 rfl g_o16 ?_
        refine j_iload_n C dX6_copy_80 rfl (hl.at 2 rfl) ?_
        obtain ⟨v17, g_v17, h⟩ := bd h
        refine j_iald C dX6_copy_81 hx1 g_v17 (fun hv17 => ?_)
        obtain ⟨S18, g_S18, h⟩ := bd h
        refine j_iast C dX6_copy_82 hv4 hv17 g_S18 ?_
        refine j_aload_n C dX6_copy_83 rfl (hl.at 1 rfl) ?_
        obtain ⟨o19, g_o19, h⟩ := bd h
        refine j_gR C dX6_copy_84 fl_RX6_26 rfl g_o19 ?_
        refine j_iload_n C dX6_copy_87 rfl (hl.at 0 rfl) ?_
        refine j_aload_n C dX6_copy_88 rfl (hl.at 1 rfl) ?_
        obtain ⟨o20, g_o20, h⟩ := bd h
        refine j_gR C dX6_copy_89 fl_RX6_26 rfl g_o20 ?_
        refine j_iload_n C dX6_copy_92 rfl (hl.at 2 rfl) ?_
        obtain ⟨v21, g_v21, h⟩ := bd h
        refine j_iald C dX6_copy_93 hx1 g_v21 (fun hv21 => ?_)
        obtain ⟨S22, g_S22, h⟩ := bd h
        refine j_iast C dX6_copy_94 hv4 hv21 g_S22 ?_
        refine j_aload_n C dX6_copy_95 rfl (hl.at 1 rfl) ?_
        obtain ⟨o23, g_o23, h⟩ := bd h
        refine j_gR C dX6_copy_96 fl_RX6_29 rfl g_o23 ?_
        refine j_iload_n C dX6_copy_99 rfl (hl.at 0 rfl) ?_
        refine j_aload_n C dX6_copy_100 rfl (hl.at 1 rfl) ?_
        obtain ⟨o24, g_o24, h⟩ := bd h
        refine j_gR C dX6_copy_101 fl_RX6_29 rfl g_o24 ?_
        refine j_iload_n C dX6_copy_104 rfl (hl.at 2 rfl) ?_
        obtain ⟨v25, g_v25, h⟩ := bd h
        refine j_iald C dX6_copy_105 hx1 g_v25 (fun hv25 => ?_)
        obtain ⟨S26, g_S26, h⟩ := bd h
        refine j_iast C dX6_copy_106 hv4 hv25 g_S26 ?_
        refine j_iconst C dX6_copy_107 ?_
        refine k_istore_n (lv' := [(3, iv 0), (2, iv v4), (0, rf b a0), (1, iv x1)]) C dX6_copy_108 rfl hl (by decide) rfl (fun ls hl => ?_)
        exact w_X6_copy_109 C hT hnm hr FU _ _ _ _ _ hx1 hv4 (by decide) h ls (hl.sub [2, 3, 1, 0] rfl)
      · exact j_thrown C hT (run_W (As := [iv v4]) (rest := []) C (m_X6_begin hst hv4 hc) cv_RX6_92 (by decide) rfl c7 rfl hl (by decide) (by decide) (by decide) dX6_copy_46) hne
    · rw [if_neg b1] at h
      refine j_iconst C dX6_copy_37 ?_
      exact j_iret C dX6_copy_38 hr (by decide) h
  · exact j_thrown C hT (run_W (As := [iv t1, iv t0]) (rest := []) C (m_X6_refused hst ht1 ht0 hc) cv_RX6_107 (by decide) rfl c3 rfl hl (by decide) (by decide) (by decide) dX6_copy_31) hne
noncomputable def f_X6_copy_17 (a0 : Option Nat) (x1 : Int) (t0 : Int) (u1 : Option Nat) (S : AS) : Option RS :=
  (gI S a0 7 1).bind fun v1 =>
  if v1 = 24 then
    f_X6_copy_31 a0 x1 1 t0 u1 S
  else
    f_X6_copy_31 a0 x1 0 t0 u1 S
set_option maxHeartbeats 4000000 in
set_option maxRecDepth 100000 in
theorem w_X6_copy_17 {p : Program} {l : Launch} {e : Env} {R : Room} {s : State} {m : MethodId} {args : Array Value} {below : List Frame} {meth : Method} {c : Code} {b : Nat} {D : va_G} {dA : Nat → ClassId} {S0 : AS} {q : RS} (C : hp_C p l e R s m args below meth c b D dA S0 RX6 cX6_copy 4 7 38) (hT : ∀ x ∈ c.exceptionTable.toList, False) (hnm : meth.name = "copy") (hr : meth.sig.returnType = (some .int)) : ∀ (a0 : Option Nat) (x1 : Int) (t0 : Int) (u1 : Option Nat) (S : AS), inR x1 → inR t0 → f_X6_copy_17 a0 x1 t0 u1 S = some q → ∀ ls : Array Slot, hp_L ls 4 [(0, rf b a0), (1, iv x1)] → hp_J p l e R s m args below meth c b D dA S0 (hp_Q below b D dA S0 1 q args s) S 17 ls [iv t0, rf b u1] := by
  have hst : l.stackTraces = false := C.2.2.2.2.2.2.2.2.2.2.1
  intro a0 x1 t0 u1 S hx1 ht0 h ls hl
  unfold f_X6_copy_17 at h
  refine j_aload_n C dX6_copy_17 rfl (hl.at 0 rfl) ?_
  obtain ⟨v1, g_v1, h⟩ := bd h
  refine j_gI C dX6_copy_18 fl_RX6_89 (Or.inl rfl) g_v1 (fun hv1 => ?_)
  refine j_bipush (x := 24) C dX6_copy_21 (by decide) ?_
  refine j_icmp_ne (tgt := 30) C dX6_copy_23 (by decide) hv1 (by decide) (fun b1 => ?_) (fun b1 => ?_)
  · rw [if_neg b1] at h
    refine j_iconst C dX6_copy_30 ?_
    exact w_X6_copy_31 C hT hnm hr _ _ _ _ _ _ hx1 (by decide) ht0 h ls (hl.sub [0, 1] rfl)
  · rw [if_pos (Decidable.byContradiction b1)] at h
    refine j_iconst C dX6_copy_26 ?_
    refine j_goto (tgt := 31) C dX6_copy_27 (by decide) ?_
    exact w_X6_copy_31 C hT hnm hr _ _ _ _ _ _ hx1 (by decide) ht0 h ls (hl.sub [0, 1] rfl)
noncomputable def f_X6_copy (a0 : Option Nat) (x1 : Int) (S : AS) : Option RS :=
  (gI S a0 7 1).bind fun v1 =>
  cI (f_X6_isIn x1 v1 S) fun v3 S2 =>
  if v3 = 0 then
    f_X6_copy_17 a0 x1 1 a0 S2
  else
    f_X6_copy_17 a0 x1 0 a0 S2
set_option maxHeartbeats 4000000 in
set_option maxRecDepth 100000 in
theorem m_X6_copy {l : Launch} {b : Nat} {D : va_G} {dA : Nat → ClassId} (hst : l.stackTraces = false) {a0 : Option Nat} {x1 : Int} {S : AS} {q : RS} (hx1 : inR x1) (h : f_X6_copy a0 x1 S = some q) : hp_M l b D dA yX6_copy cX6_copy 4 (some .int) 7 38 [rf b a0, iv x1] S 1 q := by
  have hcat : ∀ v ∈ ([rf b a0, iv x1] : List Value), v.category = 1 := (by intro v hv; simp only [List.mem_cons, List.not_mem_nil, or_false] at hv; rcases hv with rfl | rfl <;> first | exact cat_iv _ | exact cat_rf _ _)
  refine hp_ofJ (own := RX6) hst (by decide +kernel) rfl hcat (Nat.le_of_ble_eq_true rfl) ?_
  intro p e R s m args below meth c C hT hnm hr ls hl9
  have hl : hp_L ls 4 [(0, rf b a0), (1, iv x1)] := hp_L.of hl9 hcat
  unfold f_X6_copy at h
  refine j_aload_n C dX6_copy_0 rfl (hl.at 0 rfl) ?_
  refine j_iload_n C dX6_copy_1 rfl (hl.at 1 rfl) ?_
  refine j_aload_n C dX6_copy_2 rfl (hl.at 0 rfl) ?_
  obtain ⟨v1, g_v1, h⟩ := bd h
  refine j_gI C dX6_copy_3 fl_RX6_89 (Or.inl rfl) g_v1 (fun hv1 => ?_)
  rcases cI_some h with ⟨S2, v3, wv3, hc, h⟩ | ⟨hc, hne⟩
  · refine j_callI C (run_S (As := [iv x1, iv v1]) (rest := [rf b a0]) C (m_X6_isIn hst hx1 hv1 hc) cs_RX6_99 rfl hl.1.1 (by simp [cat_iv, cat_rf]) (by decide) (by decide) dX6_copy_6) (fun hv3 => ?_)
    refine j_if_ne (tgt := 16) C dX6_copy_9 (by decide) hv3 (fun b1 => ?_) (fun b1 => ?_)
    · rw [if_neg b1] at h
      refine j_iconst C dX6_copy_16 ?_
      exact w_X6_copy_17 C hT hnm hr _ _ _ _ _ hx1 (by decide) h ls (hl.sub [0, 1] rfl)
    · rw [if_pos (Decidable.byContradiction b1)] at h
      refine j_iconst C dX6_copy_12 ?_
      refine j_goto (tgt := 17) C dX6_copy_13 (by decide) ?_
      exact w_X6_copy_17 C hT hnm hr _ _ _ _ _ hx1 (by decide) h ls (hl.sub [0, 1] rfl)
  · exact j_thrown C hT (run_S (As := [iv x1, iv v1]) (rest := [rf b a0]) C (m_X6_isIn hst hx1 hv1 hc) cs_RX6_99 rfl hl.1.1 (by simp [cat_iv, cat_rf]) (by decide) (by decide) dX6_copy_6) hne
noncomputable def f_X6_shared_28 (a0 : Option Nat) (x1 : Int) (x2 : Int) (t0 : Int) (u1 : Option Nat) (S : AS) : Option RS :=
  gd (isK S u1 7) <|
  cI (f_X6_refused u1 t0 0 S) fun v2 S1 =>
  if v2 = 0 then
    (gR S1 a0 7 8).bind fun o4 =>
    (aI S1 o4 8 x1).bind fun v5 =>
    (gR S1 a0 7 8).bind fun o6 =>
    (aI S1 o6 8 x2).bind fun v7 =>
    if v5 = v7 then
      rZ 1 S1
    else
      rZ 0 S1
  else
    rZ 0 S1
set_option maxHeartbeats 4000000 in
set_option maxRecDepth 100000 in
theorem w_X6_shared_28 {p : Program} {l : Launch} {e : Env} {R : Room} {s : State} {m : MethodId} {args : Array Value} {below : List Frame} {meth : Method} {c : Code} {b : Nat} {D : va_G} {dA : Nat → ClassId} {S0 : AS} {q : RS} (C : hp_C p l e R s m args below meth c b D dA S0 RX6 cX6_shared 3 7 38) (hT : ∀ x ∈ c.exceptionTable.toList, False) (hnm : meth.name = "shared") (hr : meth.sig.returnType = (some .boolean)) : ∀ (a0 : Option Nat) (x1 : Int) (x2 : Int) (t0 : Int) (u1 : Option Nat) (S : AS), inR x1 → inR x2 → inR t0 → f_X6_shared_28 a0 x1 x2 t0 u1 S = some q → ∀ ls : Array Slot, hp_L ls 3 [(0, rf b a0), (1, iv x1), (2, iv x2)] → hp_J p l e R s m args below meth c b D dA S0 (hp_Q below b D dA S0 1 q args s) S 28 ls [iv t0, rf b u1] := by
  have hst : l.stackTraces = false := C.2.2.2.2.2.2.2.2.2.2.1
  intro a0 x1 x2 t0 u1 S hx1 hx2 ht0 h ls hl
  unfold f_X6_shared_28 at h
  refine j_iconst C dX6_shared_28 ?_
  obtain ⟨c3, h⟩ := gd_some h
  rcases cI_some h with ⟨S1, v2, wv2, hc, h⟩ | ⟨hc, hne⟩
  · refine j_callI C (run_W (As := [iv t0, iv 0]) (rest := []) C (m_X6_refused hst ht0 (by decide) hc) cv_RX6_107 (by decide) rfl c3 rfl hl (by decide) (by decide) (by decide) dX6_shared_29) (fun hv2 => ?_)
    refine j_if_ne (tgt := 54) C dX6_shared_32 (by decide) hv2 (fun b1 => ?_) (fun b1 => ?_)
    · rw [if_neg b1] at h
      refine j_iconst C dX6_shared_54 ?_
      exact j_zret C dX6_shared_55 hr h
    · rw [if_pos (Decidable.byContradiction b1)] at h
      refine j_aload_n C dX6_shared_35 rfl (hl.at 0 rfl) ?_
      obtain ⟨o4, g_o4, h⟩ := bd h
      refine j_gR C dX6_shared_36 fl_RX6_29 rfl g_o4 ?_
      refine j_iload_n C dX6_shared_39 rfl (hl.at 1 rfl) ?_
      obtain ⟨v5, g_v5, h⟩ := bd h
      refine j_iald C dX6_shared_40 hx1 g_v5 (fun hv5 => ?_)
      refine j_aload_n C dX6_shared_41 rfl (hl.at 0 rfl) ?_
      obtain ⟨o6, g_o6, h⟩ := bd h
      refine j_gR C dX6_shared_42 fl_RX6_29 rfl g_o6 ?_
      refine j_iload_n C dX6_shared_45 rfl (hl.at 2 rfl) ?_
      obtain ⟨v7, g_v7, h⟩ := bd h
      refine j_iald C dX6_shared_46 hx2 g_v7 (fun hv7 => ?_)
      refine j_icmp_ne (tgt := 54) C dX6_shared_47 (by decide) hv5 hv7 (fun b1 => ?_) (fun b1 => ?_)
      · rw [if_neg b1] at h
        refine j_iconst C dX6_shared_54 ?_
        exact j_zret C dX6_shared_55 hr h
      · rw [if_pos (Decidable.byContradiction b1)] at h
        refine j_iconst C dX6_shared_50 ?_
        refine j_goto (tgt := 55) C dX6_shared_51 (by decide) ?_
        exact j_zret C dX6_shared_55 hr h
  · exact j_thrown C hT (run_W (As := [iv t0, iv 0]) (rest := []) C (m_X6_refused hst ht0 (by decide) hc) cv_RX6_107 (by decide) rfl c3 rfl hl (by decide) (by decide) (by decide) dX6_shared_29) hne
noncomputable def f_X6_shared_23 (a0 : Option Nat) (x1 : Int) (x2 : Int) (u0 : Option Nat) (S : AS) : Option RS :=
  f_X6_shared_28 a0 x1 x2 1 u0 S
set_option maxHeartbeats 4000000 in
set_option maxRecDepth 100000 in
theorem w_X6_shared_23 {p : Program} {l : Launch} {e : Env} {R : Room} {s : State} {m : MethodId} {args : Array Value} {below : List Frame} {meth : Method} {c : Code} {b : Nat} {D : va_G} {dA : Nat → ClassId} {S0 : AS} {q : RS} (C : hp_C p l e R s m args below meth c b D dA S0 RX6 cX6_shared 3 7 38) (hT : ∀ x ∈ c.exceptionTable.toList, False) (hnm : meth.name = "shared") (hr : meth.sig.returnType = (some .boolean)) : ∀ (a0 : Option Nat) (x1 : Int) (x2 : Int) (u0 : Option Nat) (S : AS), inR x1 → inR x2 → f_X6_shared_23 a0 x1 x2 u0 S = some q → ∀ ls : Array Slot, hp_L ls 3 [(0, rf b a0), (1, iv x1), (2, iv x2)] → hp_J p l e R s m args below meth c b D dA S0 (hp_Q below b D dA S0 1 q args s) S 23 ls [rf b u0] := by
  have hst : l.stackTraces = false := C.2.2.2.2.2.2.2.2.2.2.1
  intro a0 x1 x2 u0 S hx1 hx2 h ls hl
  unfold f_X6_shared_23 at h
  refine j_iconst C dX6_shared_23 ?_
  refine j_goto (tgt := 28) C dX6_shared_24 (by decide) ?_
  exact w_X6_shared_28 C hT hnm hr _ _ _ _ _ _ hx1 hx2 (by decide) h ls (hl.sub [0, 1, 2] rfl)
noncomputable def f_X6_shared (a0 : Option Nat) (x1 : Int) (x2 : Int) (S : AS) : Option RS :=
  (gI S a0 7 1).bind fun v1 =>
  cI (f_X6_isIn x1 v1 S) fun v3 S2 =>
  if v3 = 0 then
    f_X6_shared_23 a0 x1 x2 a0 S2
  else
    (gI S2 a0 7 1).bind fun v4 =>
    cI (f_X6_isIn x2 v4 S2) fun v6 S5 =>
    if v6 = 0 then
      f_X6_shared_23 a0 x1 x2 a0 S5
    else
      f_X6_shared_28 a0 x1 x2 0 a0 S5
set_option maxHeartbeats 4000000 in
set_option maxRecDepth 100000 in
theorem m_X6_shared {l : Launch} {b : Nat} {D : va_G} {dA : Nat → ClassId} (hst : l.stackTraces = false) {a0 : Option Nat} {x1 : Int} {x2 : Int} {S : AS} {q : RS} (hx1 : inR x1) (hx2 : inR x2) (h : f_X6_shared a0 x1 x2 S = some q) : hp_M l b D dA yX6_shared cX6_shared 3 (some .boolean) 7 38 [rf b a0, iv x1, iv x2] S 1 q := by
  have hcat : ∀ v ∈ ([rf b a0, iv x1, iv x2] : List Value), v.category = 1 := (by intro v hv; simp only [List.mem_cons, List.not_mem_nil, or_false] at hv; rcases hv with rfl | rfl | rfl <;> first | exact cat_iv _ | exact cat_rf _ _)
  refine hp_ofJ (own := RX6) hst (by decide +kernel) rfl hcat (Nat.le_of_ble_eq_true rfl) ?_
  intro p e R s m args below meth c C hT hnm hr ls hl9
  have hl : hp_L ls 3 [(0, rf b a0), (1, iv x1), (2, iv x2)] := hp_L.of hl9 hcat
  unfold f_X6_shared at h
  refine j_aload_n C dX6_shared_0 rfl (hl.at 0 rfl) ?_
  refine j_iload_n C dX6_shared_1 rfl (hl.at 1 rfl) ?_
  refine j_aload_n C dX6_shared_2 rfl (hl.at 0 rfl) ?_
  obtain ⟨v1, g_v1, h⟩ := bd h
  refine j_gI C dX6_shared_3 fl_RX6_89 (Or.inl rfl) g_v1 (fun hv1 => ?_)
  rcases cI_some h with ⟨S2, v3, wv3, hc, h⟩ | ⟨hc, hne⟩
  · refine j_callI C (run_S (As := [iv x1, iv v1]) (rest := [rf b a0]) C (m_X6_isIn hst hx1 hv1 hc) cs_RX6_99 rfl hl.1.1 (by simp [cat_iv, cat_rf]) (by decide) (by decide) dX6_shared_6) (fun hv3 => ?_)
    refine j_if_eq (tgt := 23) C dX6_shared_9 (by decide) hv3 (fun b1 => ?_) (fun b1 => ?_)
    · rw [if_pos b1] at h
      exact w_X6_shared_23 C hT hnm hr _ _ _ _ _ hx1 hx2 h ls (hl.sub [0, 1, 2] rfl)
    · rw [if_neg b1] at h
      refine j_iload_n C dX6_shared_12 rfl (hl.at 2 rfl) ?_
      refine j_aload_n C dX6_shared_13 rfl (hl.at 0 rfl) ?_
      obtain ⟨v4, g_v4, h⟩ := bd h
      refine j_gI C dX6_shared_14 fl_RX6_89 (Or.inl rfl) g_v4 (fun hv4 => ?_)
      rcases cI_some h with ⟨S5, v6, wv6, hc, h⟩ | ⟨hc, hne⟩
      · refine j_callI C (run_S (As := [iv x2, iv v4]) (rest := [rf b a0]) C (m_X6_isIn hst hx2 hv4 hc) cs_RX6_99 rfl hl.1.1 (by simp [cat_iv, cat_rf]) (by decide) (by decide) dX6_shared_17) (fun hv6 => ?_)
        refine j_if_ne (tgt := 27) C dX6_shared_20 (by decide) hv6 (fun b1 => ?_) (fun b1 => ?_)
        · rw [if_neg b1] at h
          refine j_iconst C dX6_shared_27 ?_
          exact w_X6_shared_28 C hT hnm hr _ _ _ _ _ _ hx1 hx2 (by decide) h ls (hl.sub [0, 1, 2] rfl)
        · rw [if_pos (Decidable.byContradiction b1)] at h
          exact w_X6_shared_23 C hT hnm hr _ _ _ _ _ hx1 hx2 h ls (hl.sub [0, 1, 2] rfl)
      · exact j_thrown C hT (run_S (As := [iv x2, iv v4]) (rest := [rf b a0]) C (m_X6_isIn hst hx2 hv4 hc) cs_RX6_99 rfl hl.1.1 (by simp [cat_iv, cat_rf]) (by decide) (by decide) dX6_shared_17) hne
  · exact j_thrown C hT (run_S (As := [iv x1, iv v1]) (rest := [rf b a0]) C (m_X6_isIn hst hx1 hv1 hc) cs_RX6_99 rfl hl.1.1 (by simp [cat_iv, cat_rf]) (by decide) (by decide) dX6_shared_6) hne
noncomputable def f_X6_enter (a0 : Option Nat) (x1 : Int) (x2 : Int) (x3 : Int) (S : AS) : Option RS :=
  (gR S a0 7 14).bind fun o1 =>
  (gI S a0 7 13).bind fun v2 =>
  (sI S o1 8 v2 x1).bind fun S3 =>
  (gR S3 a0 7 15).bind fun o4 =>
  (gI S3 a0 7 13).bind fun v5 =>
  (sI S3 o4 8 v5 x2).bind fun S6 =>
  (gR S6 a0 7 16).bind fun o7 =>
  (gI S6 a0 7 13).bind fun v8 =>
  (sI S6 o7 8 v8 x3).bind fun S9 =>
  (gI S9 a0 7 13).bind fun v10 =>
  (chk (v10 + 1)).bind fun z11 =>
  (pI S9 a0 7 13 z11).bind fun S12 =>
  rV S12
set_option maxHeartbeats 4000000 in
set_option maxRecDepth 100000 in
theorem m_X6_enter {l : Launch} {b : Nat} {D : va_G} {dA : Nat → ClassId} (hst : l.stackTraces = false) {a0 : Option Nat} {x1 : Int} {x2 : Int} {x3 : Int} {S : AS} {q : RS} (hx1 : inR x1) (hx2 : inR x2) (hx3 : inR x3) (h : f_X6_enter a0 x1 x2 x3 S = some q) : hp_M l b D dA yX6_enter cX6_enter 4 none 6 16 [rf b a0, iv x1, iv x2, iv x3] S 0 q := by
  have hcat : ∀ v ∈ ([rf b a0, iv x1, iv x2, iv x3] : List Value), v.category = 1 := (by intro v hv; simp only [List.mem_cons, List.not_mem_nil, or_false] at hv; rcases hv with rfl | rfl | rfl | rfl <;> first | exact cat_iv _ | exact cat_rf _ _)
  refine hp_ofJ (own := RX6) hst (by decide +kernel) rfl hcat (Nat.le_of_ble_eq_true rfl) ?_
  intro p e R s m args below meth c C hT hnm hr ls hl9
  have hl : hp_L ls 4 [(0, rf b a0), (1, iv x1), (2, iv x2), (3, iv x3)] := hp_L.of hl9 hcat
  unfold f_X6_enter at h
  refine j_aload_n C dX6_enter_0 rfl (hl.at 0 rfl) ?_
  obtain ⟨o1, g_o1, h⟩ := bd h
  refine j_gR C dX6_enter_1 fl_RX6_43 rfl g_o1 ?_
  refine j_aload_n C dX6_enter_4 rfl (hl.at 0 rfl) ?_
  obtain ⟨v2, g_v2, h⟩ := bd h
  refine j_gI C dX6_enter_5 fl_RX6_139 (Or.inl rfl) g_v2 (fun hv2 => ?_)
  refine j_iload_n C dX6_enter_8 rfl (hl.at 1 rfl) ?_
  obtain ⟨S3, g_S3, h⟩ := bd h
  refine j_iast C dX6_enter_9 hv2 hx1 g_S3 ?_
  refine j_aload_n C dX6_enter_10 rfl (hl.at 0 rfl) ?_
  obtain ⟨o4, g_o4, h⟩ := bd h
  refine j_gR C dX6_enter_11 fl_RX6_46 rfl g_o4 ?_
  refine j_aload_n C dX6_enter_14 rfl (hl.at 0 rfl) ?_
  obtain ⟨v5, g_v5, h⟩ := bd h
  refine j_gI C dX6_enter_15 fl_RX6_139 (Or.inl rfl) g_v5 (fun hv5 => ?_)
  refine j_iload_n C dX6_enter_18 rfl (hl.at 2 rfl) ?_
  obtain ⟨S6, g_S6, h⟩ := bd h
  refine j_iast C dX6_enter_19 hv5 hx2 g_S6 ?_
  refine j_aload_n C dX6_enter_20 rfl (hl.at 0 rfl) ?_
  obtain ⟨o7, g_o7, h⟩ := bd h
  refine j_gR C dX6_enter_21 fl_RX6_49 rfl g_o7 ?_
  refine j_aload_n C dX6_enter_24 rfl (hl.at 0 rfl) ?_
  obtain ⟨v8, g_v8, h⟩ := bd h
  refine j_gI C dX6_enter_25 fl_RX6_139 (Or.inl rfl) g_v8 (fun hv8 => ?_)
  refine j_iload_n C dX6_enter_28 rfl (hl.at 3 rfl) ?_
  obtain ⟨S9, g_S9, h⟩ := bd h
  refine j_iast C dX6_enter_29 hv8 hx3 g_S9 ?_
  refine j_aload_n C dX6_enter_30 rfl (hl.at 0 rfl) ?_
  refine j_dup C dX6_enter_31 (cat_rf _ _) ?_
  obtain ⟨v10, g_v10, h⟩ := bd h
  refine j_gI C dX6_enter_32 fl_RX6_139 (Or.inl rfl) g_v10 (fun hv10 => ?_)
  refine j_iconst C dX6_enter_35 ?_
  obtain ⟨z11, g_z11, h⟩ := bd h
  refine j_iadd C dX6_enter_36 g_z11 (fun hz11 => ?_)
  obtain ⟨S12, g_S12, h⟩ := bd h
  refine j_pI C dX6_enter_37 fl_RX6_139 (Or.inl rfl) rfl hz11 g_S12 ?_
  exact j_vret C dX6_enter_40 hr h
noncomputable def f_X6_walk_33 (n : Nat) (a0 : Option Nat) (x2 : Int) (S : AS) : Option RS := match n with
  | 0 => none
  | n + 1 =>
    if x2 ≤ 0 then
      rZ 1 S
    else
      (gR S a0 7 21).bind fun o1 =>
      (chk (x2 - 1)).bind fun z2 =>
      (aI S o1 8 z2).bind fun v3 =>
      (gR S a0 7 14).bind fun o4 =>
      (aI S o4 8 v3).bind fun v5 =>
      (gR S a0 7 22).bind fun o6 =>
      (chk (x2 - 1)).bind fun z7 =>
      (aI S o6 8 z7).bind fun v8 =>
      (gR S a0 7 5).bind fun o9 =>
      (aI S o9 8 v5).bind fun v10 =>
      if v8 = v10 then
        (chk (x2 + (-1))).bind fun z41 =>
        f_X6_walk_33 n a0 z41 S
      else
        (gR S a0 7 22).bind fun o11 =>
        (chk (x2 - 1)).bind fun z12 =>
        (chk (v8 + 1)).bind fun z13 =>
        (sI S o11 8 z12 z13).bind fun S14 =>
        (gR S14 a0 7 6).bind fun o15 =>
        (chk (64 * v5)).bind fun z16 =>
        (chk (z16 + v8)).bind fun z17 =>
        (aI S14 o15 8 z17).bind fun v18 =>
        (gR S14 a0 7 5).bind fun o19 =>
        (aI S14 o19 8 v18).bind fun v20 =>
        if v20 ≤ 0 then
          (gI S14 a0 7 18).bind fun v21 =>
          if v21 = 64 then
            rZ 0 S14
          else
            (gR S14 a0 7 19).bind fun o22 =>
            (gI S14 a0 7 18).bind fun v23 =>
            (sI S14 o22 8 v23 v3).bind fun S24 =>
            (gR S24 a0 7 20).bind fun o25 =>
            (gI S24 a0 7 18).bind fun v26 =>
            (sI S24 o25 8 v26 v8).bind fun S27 =>
            (gI S27 a0 7 18).bind fun v28 =>
            (chk (v28 + 1)).bind fun z29 =>
            (pI S27 a0 7 18 z29).bind fun S30 =>
            f_X6_walk_33 n a0 x2 S30
        else
          gd (isK S14 a0 7) <|
          cV (f_X6_enter a0 v18 v3 v8 S14) fun S31 =>
          (gR S31 a0 7 21).bind fun o34 =>
          (gI S31 a0 7 13).bind fun v35 =>
          (chk (v35 - 1)).bind fun z36 =>
          (sI S31 o34 8 x2 z36).bind fun S37 =>
          (gR S37 a0 7 22).bind fun o38 =>
          (sI S37 o38 8 x2 0).bind fun S39 =>
          (chk (x2 + 1)).bind fun z40 =>
          f_X6_walk_33 n a0 z40 S39
set_option maxHeartbeats 4000000 in
set_option maxRecDepth 100000 in
theorem w_X6_walk_33 {p : Program} {l : Launch} {e : Env} {R : Room} {s : State} {m : MethodId} {args : Array Value} {below : List Frame} {meth : Method} {c : Code} {b : Nat} {D : va_G} {dA : Nat → ClassId} {S0 : AS} {q : RS} (C : hp_C p l e R s m args below meth c b D dA S0 RX6 cX6_walk 7 7 39) (hT : ∀ x ∈ c.exceptionTable.toList, False) (hnm : meth.name = "walk") (hr : meth.sig.returnType = (some .boolean)) : ∀ (n : Nat), ∀ (a0 : Option Nat) (x2 : Int) (S : AS), inR x2 → f_X6_walk_33 n a0 x2 S = some q → ∀ ls : Array Slot, hp_L ls 7 [(0, rf b a0), (2, iv x2)] → hp_J p l e R s m args below meth c b D dA S0 (hp_Q below b D dA S0 1 q args s) S 33 ls [] := by
  have hst : l.stackTraces = false := C.2.2.2.2.2.2.2.2.2.2.1
  intro n
  induction n with
  | zero =>
    intro a0 x2 S hx2 h
    cases h
  | succ n ih =>
    intro a0 x2 S hx2 h ls hl
    unfold f_X6_walk_33 at h
    refine j_iload_n C dX6_walk_33 rfl (hl.at 1 rfl) ?_
    refine j_if_le (tgt := 198) C dX6_walk_34 (by decide) hx2 (fun b1 => ?_) (fun b1 => ?_)
    · rw [if_pos b1] at h
      refine j_iconst C dX6_walk_198 ?_
      exact j_zret C dX6_walk_199 hr h
    · rw [if_neg b1] at h
      refine j_aload_n C dX6_walk_37 rfl (hl.at 0 rfl) ?_
      obtain ⟨o1, g_o1, h⟩ := bd h
      refine j_gR C dX6_walk_38 fl_RX6_61 rfl g_o1 ?_
      refine j_iload_n C dX6_walk_41 rfl (hl.at 1 rfl) ?_
      refine j_iconst C dX6_walk_42 ?_
      obtain ⟨z2, g_z2, h⟩ := bd h
      refine j_isub C dX6_walk_43 g_z2 (fun hz2 => ?_)
      obtain ⟨v3, g_v3, h⟩ := bd h
      refine j_iald C dX6_walk_44 hz2 g_v3 (fun hv3 => ?_)
      refine k_istore_n (lv' := [(3, iv v3), (0, rf b a0), (2, iv x2)]) C dX6_walk_45 rfl hl (by decide) rfl (fun ls hl => ?_)
      refine j_aload_n C dX6_walk_46 rfl (hl.at 1 rfl) ?_
      obtain ⟨o4, g_o4, h⟩ := bd h
      refine j_gR C dX6_walk_47 fl_RX6_43 rfl g_o4 ?_
      refine j_iload_n C dX6_walk_50 rfl (hl.at 0 rfl) ?_
      obtain ⟨v5, g_v5, h⟩ := bd h
      refine j_iald C dX6_walk_51 hv3 g_v5 (fun hv5 => ?_)
      refine k_istore (lv' := [(4, iv v5), (3, iv v3), (0, rf b a0), (2, iv x2)]) C dX6_walk_52 hl (by decide) rfl (fun ls hl => ?_)
      refine j_aload_n C dX6_walk_54 rfl (hl.at 2 rfl) ?_
      obtain ⟨o6, g_o6, h⟩ := bd h
      refine j_gR C dX6_walk_55 fl_RX6_64 rfl g_o6 ?_
      refine j_iload_n C dX6_walk_58 rfl (hl.at 3 rfl) ?_
      refine j_iconst C dX6_walk_59 ?_
      obtain ⟨z7, g_z7, h⟩ := bd h
      refine j_isub C dX6_walk_60 g_z7 (fun hz7 => ?_)
      obtain ⟨v8, g_v8, h⟩ := bd h
      refine j_iald C dX6_walk_61 hz7 g_v8 (fun hv8 => ?_)
      refine k_istore (lv' := [(5, iv v8), (4, iv v5), (3, iv v3), (0, rf b a0), (2, iv x2)]) C dX6_walk_62 hl (by decide) rfl (fun ls hl => ?_)
      refine j_iload C dX6_walk_64 (hl.at 0 rfl) ?_
      refine j_aload_n C dX6_walk_66 rfl (hl.at 3 rfl) ?_
      obtain ⟨o9, g_o9, h⟩ := bd h
      refine j_gR C dX6_walk_67 fl_RX6_20 rfl g_o9 ?_
      refine j_iload C dX6_walk_70 (hl.at 1 rfl) ?_
      obtain ⟨v10, g_v10, h⟩ := bd h
      refine j_iald C dX6_walk_72 hv5 g_v10 (fun hv10 => ?_)
      refine j_icmp_ne (tgt := 82) C dX6_walk_73 (by decide) hv8 hv10 (fun b1 => ?_) (fun b1 => ?_)
      · rw [if_neg b1] at h
        refine j_aload_n C dX6_walk_82 rfl (hl.at 3 rfl) ?_
        obtain ⟨o11, g_o11, h⟩ := bd h
        refine j_gR C dX6_walk_83 fl_RX6_64 rfl g_o11 ?_
        refine j_iload_n C dX6_walk_86 rfl (hl.at 4 rfl) ?_
        refine j_iconst C dX6_walk_87 ?_
        obtain ⟨z12, g_z12, h⟩ := bd h
        refine j_isub C dX6_walk_88 g_z12 (fun hz12 => ?_)
        refine j_iload C dX6_walk_89 (hl.at 0 rfl) ?_
        refine j_iconst C dX6_walk_91 ?_
        obtain ⟨z13, g_z13, h⟩ := bd h
        refine j_iadd C dX6_walk_92 g_z13 (fun hz13 => ?_)
        obtain ⟨S14, g_S14, h⟩ := bd h
        refine j_iast C dX6_walk_93 hz12 hz13 g_S14 ?_
        refine j_aload_n C dX6_walk_94 rfl (hl.at 3 rfl) ?_
        obtain ⟨o15, g_o15, h⟩ := bd h
        refine j_gR C dX6_walk_95 fl_RX6_23 rfl g_o15 ?_
        refine j_bipush (x := 64) C dX6_walk_98 (by decide) ?_
        refine j_iload C dX6_walk_100 (hl.at 1 rfl) ?_
        obtain ⟨z16, g_z16, h⟩ := bd h
        refine j_imul C dX6_walk_102 g_z16 (fun hz16 => ?_)
        refine j_iload C dX6_walk_103 (hl.at 0 rfl) ?_
        obtain ⟨z17, g_z17, h⟩ := bd h
        refine j_iadd C dX6_walk_105 g_z17 (fun hz17 => ?_)
        obtain ⟨v18, g_v18, h⟩ := bd h
        refine j_iald C dX6_walk_106 hz17 g_v18 (fun hv18 => ?_)
        refine k_istore (lv' := [(6, iv v18), (5, iv v8), (4, iv v5), (3, iv v3), (0, rf b a0), (2, iv x2)]) C dX6_walk_107 hl (by decide) rfl (fun ls hl => ?_)
        refine j_aload_n C dX6_walk_109 rfl (hl.at 4 rfl) ?_
        obtain ⟨o19, g_o19, h⟩ := bd h
        refine j_gR C dX6_walk_110 fl_RX6_20 rfl g_o19 ?_
        refine j_iload C dX6_walk_113 (hl.at 0 rfl) ?_
        obtain ⟨v20, g_v20, h⟩ := bd h
        refine j_iald C dX6_walk_115 hv18 g_v20 (fun hv20 => ?_)
        refine j_if_le (tgt := 153) C dX6_walk_116 (by decide) hv20 (fun b1 => ?_) (fun b1 => ?_)
        · rw [if_pos b1] at h
          refine j_aload_n C dX6_walk_153 rfl (hl.at 4 rfl) ?_
          obtain ⟨v21, g_v21, h⟩ := bd h
          refine j_gI C dX6_walk_154 fl_RX6_142 (Or.inl rfl) g_v21 (fun hv21 => ?_)
          refine j_bipush (x := 64) C dX6_walk_157 (by decide) ?_
          refine j_icmp_ne (tgt := 164) C dX6_walk_159 (by decide) hv21 (by decide) (fun b1 => ?_) (fun b1 => ?_)
          · rw [if_neg b1] at h
            refine j_aload_n C dX6_walk_164 rfl (hl.at 4 rfl) ?_
            obtain ⟨o22, g_o22, h⟩ := bd h
            refine j_gR C dX6_walk_165 fl_RX6_55 rfl g_o22 ?_
            refine j_aload_n C dX6_walk_168 rfl (hl.at 4 rfl) ?_
            obtain ⟨v23, g_v23, h⟩ := bd h
            refine j_gI C dX6_walk_169 fl_RX6_142 (Or.inl rfl) g_v23 (fun hv23 => ?_)
            refine j_iload_n C dX6_walk_172 rfl (hl.at 3 rfl) ?_
            obtain ⟨S24, g_S24, h⟩ := bd h
            refine j_iast C dX6_walk_173 hv23 hv3 g_S24 ?_
            refine j_aload_n C dX6_walk_174 rfl (hl.at 4 rfl) ?_
            obtain ⟨o25, g_o25, h⟩ := bd h
            refine j_gR C dX6_walk_175 fl_RX6_58 rfl g_o25 ?_
            refine j_aload_n C dX6_walk_178 rfl (hl.at 4 rfl) ?_
            obtain ⟨v26, g_v26, h⟩ := bd h
            refine j_gI C dX6_walk_179 fl_RX6_142 (Or.inl rfl) g_v26 (fun hv26 => ?_)
            refine j_iload C dX6_walk_182 (hl.at 1 rfl) ?_
            obtain ⟨S27, g_S27, h⟩ := bd h
            refine j_iast C dX6_walk_184 hv26 hv8 g_S27 ?_
            refine j_aload_n C dX6_walk_185 rfl (hl.at 4 rfl) ?_
            refine j_dup C dX6_walk_186 (cat_rf _ _) ?_
            obtain ⟨v28, g_v28, h⟩ := bd h
            refine j_gI C dX6_walk_187 fl_RX6_142 (Or.inl rfl) g_v28 (fun hv28 => ?_)
            refine j_iconst C dX6_walk_190 ?_
            obtain ⟨z29, g_z29, h⟩ := bd h
            refine j_iadd C dX6_walk_191 g_z29 (fun hz29 => ?_)
            obtain ⟨S30, g_S30, h⟩ := bd h
            refine j_pI C dX6_walk_192 fl_RX6_142 (Or.inl rfl) rfl hz29 g_S30 ?_
            refine j_goto (tgt := 33) C dX6_walk_195 (by decide) ?_
            exact ih _ _ _ hx2 h ls (hl.sub [4, 5] rfl)
          · rw [if_pos (Decidable.byContradiction b1)] at h
            refine j_iconst C dX6_walk_162 ?_
            exact j_zret C dX6_walk_163 hr h
        · rw [if_neg b1] at h
          refine j_aload_n C dX6_walk_119 rfl (hl.at 4 rfl) ?_
          refine j_iload C dX6_walk_120 (hl.at 0 rfl) ?_
          refine j_iload_n C dX6_walk_122 rfl (hl.at 3 rfl) ?_
          refine j_iload C dX6_walk_123 (hl.at 1 rfl) ?_
          obtain ⟨c33, h⟩ := gd_some h
          rcases cV_some h with ⟨S31, y32, hc, h⟩ | ⟨hc, hne⟩
          · refine j_callV C (run_W (As := [iv v18, iv v3, iv v8]) (rest := []) C (m_X6_enter hst hv18 hv3 hv8 hc) cv_RX6_145 (by decide) rfl c33 rfl hl (by decide) (by decide) (by decide) dX6_walk_125) ?_
            refine j_aload_n C dX6_walk_128 rfl (hl.at 4 rfl) ?_
            obtain ⟨o34, g_o34, h⟩ := bd h
            refine j_gR C dX6_walk_129 fl_RX6_61 rfl g_o34 ?_
            refine j_iload_n C dX6_walk_132 rfl (hl.at 5 rfl) ?_
            refine j_aload_n C dX6_walk_133 rfl (hl.at 4 rfl) ?_
            obtain ⟨v35, g_v35, h⟩ := bd h
            refine j_gI C dX6_walk_134 fl_RX6_139 (Or.inl rfl) g_v35 (fun hv35 => ?_)
            refine j_iconst C dX6_walk_137 ?_
            obtain ⟨z36, g_z36, h⟩ := bd h
            refine j_isub C dX6_walk_138 g_z36 (fun hz36 => ?_)
            obtain ⟨S37, g_S37, h⟩ := bd h
            refine j_iast C dX6_walk_139 hx2 hz36 g_S37 ?_
            refine j_aload_n C dX6_walk_140 rfl (hl.at 4 rfl) ?_
            obtain ⟨o38, g_o38, h⟩ := bd h
            refine j_gR C dX6_walk_141 fl_RX6_64 rfl g_o38 ?_
            refine j_iload_n C dX6_walk_144 rfl (hl.at 5 rfl) ?_
            refine j_iconst C dX6_walk_145 ?_
            obtain ⟨S39, g_S39, h⟩ := bd h
            refine j_iast C dX6_walk_146 hx2 (by decide) g_S39 ?_
            obtain ⟨z40, g_z40, h⟩ := bd h
            refine k_iinc (k9 := 5) (lv' := [(2, iv z40), (6, iv v18), (5, iv v8), (4, iv v5), (3, iv v3), (0, rf b a0)]) C dX6_walk_147 hl rfl g_z40 (by decide) rfl (fun hz40 ls hl => ?_)
            refine j_goto (tgt := 195) C dX6_walk_150 (by decide) ?_
            refine j_goto (tgt := 33) C dX6_walk_195 (by decide) ?_
            exact ih _ _ _ hz40 h ls (hl.sub [5, 0] rfl)
          · exact j_thrown C hT (run_W (As := [iv v18, iv v3, iv v8]) (rest := []) C (m_X6_enter hst hv18 hv3 hv8 hc) cv_RX6_145 (by decide) rfl c33 rfl hl (by decide) (by decide) (by decide) dX6_walk_125) hne
      · rw [if_pos (Decidable.byContradiction b1)] at h
        obtain ⟨z41, g_z41, h⟩ := bd h
        refine k_iinc (k9 := 4) (lv' := [(2, iv z41), (5, iv v8), (4, iv v5), (3, iv v3), (0, rf b a0)]) C dX6_walk_76 hl rfl g_z41 (by decide) rfl (fun hz41 ls hl => ?_)
        refine j_goto (tgt := 195) C dX6_walk_79 (by decide) ?_
        refine j_goto (tgt := 33) C dX6_walk_195 (by decide) ?_
        exact ih _ _ _ hz41 h ls (hl.sub [4, 0] rfl)
noncomputable def f_X6_walk (a0 : Option Nat) (x1 : Int) (S : AS) : Option RS :=
  (pI S a0 7 13 0).bind fun S1 =>
  (pI S1 a0 7 18 0).bind fun S2 =>
  gd (isK S2 a0 7) <|
  cV (f_X6_enter a0 x1 (-1) (-1) S2) fun S3 =>
  (gR S3 a0 7 21).bind fun o6 =>
  (sI S3 o6 8 0 0).bind fun S7 =>
  (gR S7 a0 7 22).bind fun o8 =>
  (sI S7 o8 8 0 0).bind fun S9 =>
  f_X6_walk_33 FU a0 1 S9
set_option maxHeartbeats 4000000 in
set_option maxRecDepth 100000 in
theorem m_X6_walk {l : Launch} {b : Nat} {D : va_G} {dA : Nat → ClassId} (hst : l.stackTraces = false) {a0 : Option Nat} {x1 : Int} {S : AS} {q : RS} (hx1 : inR x1) (h : f_X6_walk a0 x1 S = some q) : hp_M l b D dA yX6_walk cX6_walk 7 (some .boolean) 7 39 [rf b a0, iv x1] S 1 q := by
  have hcat : ∀ v ∈ ([rf b a0, iv x1] : List Value), v.category = 1 := (by intro v hv; simp only [List.mem_cons, List.not_mem_nil, or_false] at hv; rcases hv with rfl | rfl <;> first | exact cat_iv _ | exact cat_rf _ _)
  refine hp_ofJ (own := RX6) hst (by decide +kernel) rfl hcat (Nat.le_of_ble_eq_true rfl) ?_
  intro p e R s m args below meth c C hT hnm hr ls hl9
  have hl : hp_L ls 7 [(0, rf b a0), (1, iv x1)] := hp_L.of hl9 hcat
  unfold f_X6_walk at h
  refine j_aload_n C dX6_walk_0 rfl (hl.at 0 rfl) ?_
  refine j_iconst C dX6_walk_1 ?_
  obtain ⟨S1, g_S1, h⟩ := bd h
  refine j_pI C dX6_walk_2 fl_RX6_139 (Or.inl rfl) rfl (by decide) g_S1 ?_
  refine j_aload_n C dX6_walk_5 rfl (hl.at 0 rfl) ?_
  refine j_iconst C dX6_walk_6 ?_
  obtain ⟨S2, g_S2, h⟩ := bd h
  refine j_pI C dX6_walk_7 fl_RX6_142 (Or.inl rfl) rfl (by decide) g_S2 ?_
  refine j_aload_n C dX6_walk_10 rfl (hl.at 0 rfl) ?_
  refine j_iload_n C dX6_walk_11 rfl (hl.at 1 rfl) ?_
  refine j_iconst C dX6_walk_12 ?_
  refine j_iconst C dX6_walk_13 ?_
  obtain ⟨c5, h⟩ := gd_some h
  rcases cV_some h with ⟨S3, y4, hc, h⟩ | ⟨hc, hne⟩
  · refine j_callV C (run_W (As := [iv x1, iv (-1), iv (-1)]) (rest := []) C (m_X6_enter hst hx1 (by decide) (by decide) hc) cv_RX6_145 (by decide) rfl c5 rfl hl (by decide) (by decide) (by decide) dX6_walk_14) ?_
    refine j_iconst C dX6_walk_17 ?_
    refine k_istore_n (lv' := [(2, iv 1), (0, rf b a0), (1, iv x1)]) C dX6_walk_18 rfl hl (by decide) rfl (fun ls hl => ?_)
    refine j_aload_n C dX6_walk_19 rfl (hl.at 1 rfl) ?_
    obtain ⟨o6, g_o6, h⟩ := bd h
    refine j_gR C dX6_walk_20 fl_RX6_61 rfl g_o6 ?_
    refine j_iconst C dX6_walk_23 ?_
    refine j_iconst C dX6_walk_24 ?_
    obtain ⟨S7, g_S7, h⟩ := bd h
    refine j_iast C dX6_walk_25 (by decide) (by decide) g_S7 ?_
    refine j_aload_n C dX6_walk_26 rfl (hl.at 1 rfl) ?_
    obtain ⟨o8, g_o8, h⟩ := bd h
    refine j_gR C dX6_walk_27 fl_RX6_64 rfl g_o8 ?_
    refine j_iconst C dX6_walk_30 ?_
    refine j_iconst C dX6_walk_31 ?_
    obtain ⟨S9, g_S9, h⟩ := bd h
    refine j_iast C dX6_walk_32 (by decide) (by decide) g_S9 ?_
    exact w_X6_walk_33 C hT hnm hr FU _ _ _ (by decide) h ls (hl.sub [1, 0] rfl)
  · exact j_thrown C hT (run_W (As := [iv x1, iv (-1), iv (-1)]) (rest := []) C (m_X6_enter hst hx1 (by decide) (by decide) hc) cv_RX6_145 (by decide) rfl c5 rfl hl (by decide) (by decide) (by decide) dX6_walk_14) hne
noncomputable def f_X6_lower_51 (a0 : Option Nat) (x1 : Int) (x2 : Int) (x3 : Int) (t0 : Int) (S : AS) : Option RS :=
  (gR S a0 7 23).bind fun o1 =>
  (sI S o1 8 x1 x3).bind fun S2 =>
  (gR S2 a0 7 23).bind fun o3 =>
  (sI S2 o3 8 x2 x3).bind fun S4 =>
  rZ t0 S4
set_option maxHeartbeats 4000000 in
set_option maxRecDepth 100000 in
theorem w_X6_lower_51 {p : Program} {l : Launch} {e : Env} {R : Room} {s : State} {m : MethodId} {args : Array Value} {below : List Frame} {meth : Method} {c : Code} {b : Nat} {D : va_G} {dA : Nat → ClassId} {S0 : AS} {q : RS} (C : hp_C p l e R s m args below meth c b D dA S0 RX6 cX6_lower 5 6 16) (hT : ∀ x ∈ c.exceptionTable.toList, False) (hnm : meth.name = "lower") (hr : meth.sig.returnType = (some .boolean)) : ∀ (a0 : Option Nat) (x1 : Int) (x2 : Int) (x3 : Int) (t0 : Int) (S : AS), inR x1 → inR x2 → inR x3 → inR t0 → f_X6_lower_51 a0 x1 x2 x3 t0 S = some q → ∀ ls : Array Slot, hp_L ls 5 [(0, rf b a0), (1, iv x1), (2, iv x2), (3, iv x3)] → hp_J p l e R s m args below meth c b D dA S0 (hp_Q below b D dA S0 1 q args s) S 51 ls [iv t0] := by
  have hst : l.stackTraces = false := C.2.2.2.2.2.2.2.2.2.2.1
  intro a0 x1 x2 x3 t0 S hx1 hx2 hx3 ht0 h ls hl
  unfold f_X6_lower_51 at h
  refine k_istore (lv' := [(4, iv t0), (0, rf b a0), (1, iv x1), (2, iv x2), (3, iv x3)]) C dX6_lower_51 hl (by decide) rfl (fun ls hl => ?_)
  refine j_aload_n C dX6_lower_53 rfl (hl.at 1 rfl) ?_
  obtain ⟨o1, g_o1, h⟩ := bd h
  refine j_gR C dX6_lower_54 fl_RX6_67 rfl g_o1 ?_
  refine j_iload_n C dX6_lower_57 rfl (hl.at 2 rfl) ?_
  refine j_iload_n C dX6_lower_58 rfl (hl.at 4 rfl) ?_
  obtain ⟨S2, g_S2, h⟩ := bd h
  refine j_iast C dX6_lower_59 hx1 hx3 g_S2 ?_
  refine j_aload_n C dX6_lower_60 rfl (hl.at 1 rfl) ?_
  obtain ⟨o3, g_o3, h⟩ := bd h
  refine j_gR C dX6_lower_61 fl_RX6_67 rfl g_o3 ?_
  refine j_iload_n C dX6_lower_64 rfl (hl.at 3 rfl) ?_
  refine j_iload_n C dX6_lower_65 rfl (hl.at 4 rfl) ?_
  obtain ⟨S4, g_S4, h⟩ := bd h
  refine j_iast C dX6_lower_66 hx2 hx3 g_S4 ?_
  refine j_iload C dX6_lower_67 (hl.at 0 rfl) ?_
  exact j_zret C dX6_lower_69 hr h
noncomputable def f_X6_lower_30 (a0 : Option Nat) (x1 : Int) (x2 : Int) (t0 : Int) (S : AS) : Option RS :=
  (gR S a0 7 23).bind fun o1 =>
  (aI S o1 8 x1).bind fun v2 =>
  (gR S a0 7 23).bind fun o3 =>
  (aI S o3 8 x2).bind fun v4 =>
  if v2 = v4 then
    f_X6_lower_51 a0 x1 x2 t0 0 S
  else
    f_X6_lower_51 a0 x1 x2 t0 1 S
set_option maxHeartbeats 4000000 in
set_option maxRecDepth 100000 in
theorem w_X6_lower_30 {p : Program} {l : Launch} {e : Env} {R : Room} {s : State} {m : MethodId} {args : Array Value} {below : List Frame} {meth : Method} {c : Code} {b : Nat} {D : va_G} {dA : Nat → ClassId} {S0 : AS} {q : RS} (C : hp_C p l e R s m args below meth c b D dA S0 RX6 cX6_lower 5 6 16) (hT : ∀ x ∈ c.exceptionTable.toList, False) (hnm : meth.name = "lower") (hr : meth.sig.returnType = (some .boolean)) : ∀ (a0 : Option Nat) (x1 : Int) (x2 : Int) (t0 : Int) (S : AS), inR x1 → inR x2 → inR t0 → f_X6_lower_30 a0 x1 x2 t0 S = some q → ∀ ls : Array Slot, hp_L ls 5 [(0, rf b a0), (1, iv x1), (2, iv x2)] → hp_J p l e R s m args below meth c b D dA S0 (hp_Q below b D dA S0 1 q args s) S 30 ls [iv t0] := by
  have hst : l.stackTraces = false := C.2.2.2.2.2.2.2.2.2.2.1
  intro a0 x1 x2 t0 S hx1 hx2 ht0 h ls hl
  unfold f_X6_lower_30 at h
  refine k_istore_n (lv' := [(3, iv t0), (0, rf b a0), (1, iv x1), (2, iv x2)]) C dX6_lower_30 rfl hl (by decide) rfl (fun ls hl => ?_)
  refine j_aload_n C dX6_lower_31 rfl (hl.at 1 rfl) ?_
  obtain ⟨o1, g_o1, h⟩ := bd h
  refine j_gR C dX6_lower_32 fl_RX6_67 rfl g_o1 ?_
  refine j_iload_n C dX6_lower_35 rfl (hl.at 2 rfl) ?_
  obtain ⟨v2, g_v2, h⟩ := bd h
  refine j_iald C dX6_lower_36 hx1 g_v2 (fun hv2 => ?_)
  refine j_aload_n C dX6_lower_37 rfl (hl.at 1 rfl) ?_
  obtain ⟨o3, g_o3, h⟩ := bd h
  refine j_gR C dX6_lower_38 fl_RX6_67 rfl g_o3 ?_
  refine j_iload_n C dX6_lower_41 rfl (hl.at 3 rfl) ?_
  obtain ⟨v4, g_v4, h⟩ := bd h
  refine j_iald C dX6_lower_42 hx2 g_v4 (fun hv4 => ?_)
  refine j_icmp_eq (tgt := 50) C dX6_lower_43 (by decide) hv2 hv4 (fun b1 => ?_) (fun b1 => ?_)
  · rw [if_pos b1] at h
    refine j_iconst C dX6_lower_50 ?_
    exact w_X6_lower_51 C hT hnm hr _ _ _ _ _ _ hx1 hx2 ht0 (by decide) h ls (hl.sub [1, 2, 3, 0] rfl)
  · rw [if_neg b1] at h
    refine j_iconst C dX6_lower_46 ?_
    refine j_goto (tgt := 51) C dX6_lower_47 (by decide) ?_
    exact w_X6_lower_51 C hT hnm hr _ _ _ _ _ _ hx1 hx2 ht0 (by decide) h ls (hl.sub [1, 2, 3, 0] rfl)
noncomputable def f_X6_lower (a0 : Option Nat) (x1 : Int) (x2 : Int) (S : AS) : Option RS :=
  (gR S a0 7 23).bind fun o1 =>
  (aI S o1 8 x1).bind fun v2 =>
  (gR S a0 7 23).bind fun o3 =>
  (aI S o3 8 x2).bind fun v4 =>
  if v4 ≤ v2 then
    (gR S a0 7 23).bind fun o5 =>
    (aI S o5 8 x2).bind fun v6 =>
    f_X6_lower_30 a0 x1 x2 v6 S
  else
    (gR S a0 7 23).bind fun o7 =>
    (aI S o7 8 x1).bind fun v8 =>
    f_X6_lower_30 a0 x1 x2 v8 S
set_option maxHeartbeats 4000000 in
set_option maxRecDepth 100000 in
theorem m_X6_lower {l : Launch} {b : Nat} {D : va_G} {dA : Nat → ClassId} (hst : l.stackTraces = false) {a0 : Option Nat} {x1 : Int} {x2 : Int} {S : AS} {q : RS} (hx1 : inR x1) (hx2 : inR x2) (h : f_X6_lower a0 x1 x2 S = some q) : hp_M l b D dA yX6_lower cX6_lower 5 (some .boolean) 6 16 [rf b a0, iv x1, iv x2] S 1 q := by
  have hcat : ∀ v ∈ ([rf b a0, iv x1, iv x2] : List Value), v.category = 1 := (by intro v hv; simp only [List.mem_cons, List.not_mem_nil, or_false] at hv; rcases hv with rfl | rfl | rfl <;> first | exact cat_iv _ | exact cat_rf _ _)
  refine hp_ofJ (own := RX6) hst (by decide +kernel) rfl hcat (Nat.le_of_ble_eq_true rfl) ?_
  intro p e R s m args below meth c C hT hnm hr ls hl9
  have hl : hp_L ls 5 [(0, rf b a0), (1, iv x1), (2, iv x2)] := hp_L.of hl9 hcat
  unfold f_X6_lower at h
  refine j_aload_n C dX6_lower_0 rfl (hl.at 0 rfl) ?_
  obtain ⟨o1, g_o1, h⟩ := bd h
  refine j_gR C dX6_lower_1 fl_RX6_67 rfl g_o1 ?_
  refine j_iload_n C dX6_lower_4 rfl (hl.at 1 rfl) ?_
  obtain ⟨v2, g_v2, h⟩ := bd h
  refine j_iald C dX6_lower_5 hx1 g_v2 (fun hv2 => ?_)
  refine j_aload_n C dX6_lower_6 rfl (hl.at 0 rfl) ?_
  obtain ⟨o3, g_o3, h⟩ := bd h
  refine j_gR C dX6_lower_7 fl_RX6_67 rfl g_o3 ?_
  refine j_iload_n C dX6_lower_10 rfl (hl.at 2 rfl) ?_
  obtain ⟨v4, g_v4, h⟩ := bd h
  refine j_iald C dX6_lower_11 hx2 g_v4 (fun hv4 => ?_)
  refine j_icmp_ge (tgt := 24) C dX6_lower_12 (by decide) hv2 hv4 (fun b1 => ?_) (fun b1 => ?_)
  · rw [if_pos b1] at h
    refine j_aload_n C dX6_lower_24 rfl (hl.at 0 rfl) ?_
    obtain ⟨o5, g_o5, h⟩ := bd h
    refine j_gR C dX6_lower_25 fl_RX6_67 rfl g_o5 ?_
    refine j_iload_n C dX6_lower_28 rfl (hl.at 2 rfl) ?_
    obtain ⟨v6, g_v6, h⟩ := bd h
    refine j_iald C dX6_lower_29 hx2 g_v6 (fun hv6 => ?_)
    exact w_X6_lower_30 C hT hnm hr _ _ _ _ _ hx1 hx2 hv6 h ls (hl.sub [0, 1, 2] rfl)
  · rw [if_neg b1] at h
    refine j_aload_n C dX6_lower_15 rfl (hl.at 0 rfl) ?_
    obtain ⟨o7, g_o7, h⟩ := bd h
    refine j_gR C dX6_lower_16 fl_RX6_67 rfl g_o7 ?_
    refine j_iload_n C dX6_lower_19 rfl (hl.at 1 rfl) ?_
    obtain ⟨v8, g_v8, h⟩ := bd h
    refine j_iald C dX6_lower_20 hx1 g_v8 (fun hv8 => ?_)
    refine j_goto (tgt := 30) C dX6_lower_21 (by decide) ?_
    exact w_X6_lower_30 C hT hnm hr _ _ _ _ _ hx1 hx2 hv8 h ls (hl.sub [0, 1, 2] rfl)
noncomputable def f_X6_unite_224 (k95 : Option Nat → Int → AS → Option RS) (k103 : Option Nat → Int → Int → AS → Option RS) (k133 : Option Nat → Int → Int → Int → Int → Int → AS → Option RS) (a0 : Option Nat) (x2 : Int) (x3 : Int) (x4 : Int) (x5 : Int) (S : AS) : Option RS :=
  (chk (x5 + 1)).bind fun z1 =>
  k133 a0 1 x2 x3 x4 z1 S
set_option maxHeartbeats 4000000 in
set_option maxRecDepth 100000 in
theorem w_X6_unite_224 {p : Program} {l : Launch} {e : Env} {R : Room} {s : State} {m : MethodId} {args : Array Value} {below : List Frame} {meth : Method} {c : Code} {b : Nat} {D : va_G} {dA : Nat → ClassId} {S0 : AS} {q : RS} (C : hp_C p l e R s m args below meth c b D dA S0 RX6 cX6_unite 8 7 40) (hT : ∀ x ∈ c.exceptionTable.toList, False) (hnm : meth.name = "unite") (hr : meth.sig.returnType = (some .boolean)) {k95 : Option Nat → Int → AS → Option RS} (hk95 : ∀ (a0 : Option Nat) (x1 : Int) (S : AS), inR x1 → k95 a0 x1 S = some q → ∀ ls : Array Slot, hp_L ls 8 [(0, rf b a0), (1, iv x1)] → hp_J p l e R s m args below meth c b D dA S0 (hp_Q below b D dA S0 1 q args s) S 95 ls []) {k103 : Option Nat → Int → Int → AS → Option RS} (hk103 : ∀ (a0 : Option Nat) (x1 : Int) (x2 : Int) (S : AS), inR x1 → inR x2 → k103 a0 x1 x2 S = some q → ∀ ls : Array Slot, hp_L ls 8 [(0, rf b a0), (1, iv x1), (2, iv x2)] → hp_J p l e R s m args below meth c b D dA S0 (hp_Q below b D dA S0 1 q args s) S 103 ls []) {k133 : Option Nat → Int → Int → Int → Int → Int → AS → Option RS} (hk133 : ∀ (a0 : Option Nat) (x1 : Int) (x2 : Int) (x3 : Int) (x4 : Int) (x5 : Int) (S : AS), inR x1 → inR x2 → inR x3 → inR x4 → inR x5 → k133 a0 x1 x2 x3 x4 x5 S = some q → ∀ ls : Array Slot, hp_L ls 8 [(0, rf b a0), (1, iv x1), (2, iv x2), (3, iv x3), (4, iv x4), (5, iv x5)] → hp_J p l e R s m args below meth c b D dA S0 (hp_Q below b D dA S0 1 q args s) S 133 ls []) : ∀ (a0 : Option Nat) (x2 : Int) (x3 : Int) (x4 : Int) (x5 : Int) (S : AS), inR x2 → inR x3 → inR x4 → inR x5 → f_X6_unite_224 k95 k103 k133 a0 x2 x3 x4 x5 S = some q → ∀ ls : Array Slot, hp_L ls 8 [(0, rf b a0), (2, iv x2), (3, iv x3), (4, iv x4), (5, iv x5)] → hp_J p l e R s m args below meth c b D dA S0 (hp_Q below b D dA S0 1 q args s) S 224 ls [] := by
  have hst : l.stackTraces = false := C.2.2.2.2.2.2.2.2.2.2.1
  intro a0 x2 x3 x4 x5 S hx2 hx3 hx4 hx5 h ls hl
  unfold f_X6_unite_224 at h
  refine j_iconst C dX6_unite_224 ?_
  refine j_goto (tgt := 229) C dX6_unite_225 (by decide) ?_
  refine k_istore_n (lv' := [(1, iv 1), (0, rf b a0), (2, iv x2), (3, iv x3), (4, iv x4), (5, iv x5)]) C dX6_unite_229 rfl hl (by decide) rfl (fun ls hl => ?_)
  obtain ⟨z1, g_z1, h⟩ := bd h
  refine k_iinc (k9 := 5) (lv' := [(5, iv z1), (1, iv 1), (0, rf b a0), (2, iv x2), (3, iv x3), (4, iv x4)]) C dX6_unite_230 hl rfl g_z1 (by decide) rfl (fun hz1 ls hl => ?_)
  refine j_goto (tgt := 133) C dX6_unite_233 (by decide) ?_
  exact hk133 _ _ _ _ _ _ _ (by decide) hx2 hx3 hx4 hz1 h ls (hl.sub [2, 1, 3, 4, 5, 0] rfl)
noncomputable def f_X6_unite_133 (n : Nat) (k95 : Option Nat → Int → AS → Option RS) (k103 : Option Nat → Int → Int → AS → Option RS) (a0 : Option Nat) (x1 : Int) (x2 : Int) (x3 : Int) (x4 : Int) (x5 : Int) (S : AS) : Option RS := match n with
  | 0 => none
  | n + 1 =>
    if x4 ≤ x5 then
      (chk (x2 + 1)).bind fun z1 =>
      k103 a0 x1 z1 S
    else
      (gR S a0 7 10).bind fun o2 =>
      (gR S a0 7 14).bind fun o3 =>
      (aI S o3 8 x3).bind fun v4 =>
      (gR S a0 7 16).bind fun o5 =>
      (aI S o5 8 x2).bind fun v6 =>
      cI (f_X6_at v4 v6 x5 S) fun v8 S7 =>
      (aI S7 o2 8 v8).bind fun v9 =>
      (gR S7 a0 7 10).bind fun o10 =>
      (gR S7 a0 7 14).bind fun o11 =>
      (aI S7 o11 8 x2).bind fun v12 =>
      cI (f_X6_at v12 (-1) x5 S7) fun v14 S13 =>
      (aI S13 o10 8 v14).bind fun v15 =>
      if v9 = (-1) then
        (chk (x5 + 1)).bind fun z16 =>
        f_X6_unite_133 n k95 k103 a0 x1 x2 x3 x4 z16 S13
      else
        if v15 = (-1) then
          (chk (x5 + 1)).bind fun z17 =>
          f_X6_unite_133 n k95 k103 a0 x1 x2 x3 x4 z17 S13
        else
          (gR S13 a0 7 17).bind fun o18 =>
          (aI S13 o18 8 x3).bind fun v19 =>
          (chk (v19 + v9)).bind fun z20 =>
          (gR S13 a0 7 17).bind fun o21 =>
          (aI S13 o21 8 x2).bind fun v22 =>
          (chk (v22 + v15)).bind fun z23 =>
          gd (isK S13 a0 7) <|
          cI (f_X6_lower a0 z20 z23 S13) fun v25 S24 =>
          if v25 = 0 then
            if x1 = 0 then
              (chk (x5 + 1)).bind fun z27 =>
              f_X6_unite_133 n k95 k103 a0 0 x2 x3 x4 z27 S24
            else
              f_X6_unite_224 k95 k103 (f_X6_unite_133 n k95 k103) a0 x2 x3 x4 x5 S24
          else
            f_X6_unite_224 k95 k103 (f_X6_unite_133 n k95 k103) a0 x2 x3 x4 x5 S24
set_option maxHeartbeats 4000000 in
set_option maxRecDepth 100000 in
theorem w_X6_unite_133 {p : Program} {l : Launch} {e : Env} {R : Room} {s : State} {m : MethodId} {args : Array Value} {below : List Frame} {meth : Method} {c : Code} {b : Nat} {D : va_G} {dA : Nat → ClassId} {S0 : AS} {q : RS} (C : hp_C p l e R s m args below meth c b D dA S0 RX6 cX6_unite 8 7 40) (hT : ∀ x ∈ c.exceptionTable.toList, False) (hnm : meth.name = "unite") (hr : meth.sig.returnType = (some .boolean)) {k95 : Option Nat → Int → AS → Option RS} (hk95 : ∀ (a0 : Option Nat) (x1 : Int) (S : AS), inR x1 → k95 a0 x1 S = some q → ∀ ls : Array Slot, hp_L ls 8 [(0, rf b a0), (1, iv x1)] → hp_J p l e R s m args below meth c b D dA S0 (hp_Q below b D dA S0 1 q args s) S 95 ls []) {k103 : Option Nat → Int → Int → AS → Option RS} (hk103 : ∀ (a0 : Option Nat) (x1 : Int) (x2 : Int) (S : AS), inR x1 → inR x2 → k103 a0 x1 x2 S = some q → ∀ ls : Array Slot, hp_L ls 8 [(0, rf b a0), (1, iv x1), (2, iv x2)] → hp_J p l e R s m args below meth c b D dA S0 (hp_Q below b D dA S0 1 q args s) S 103 ls []) : ∀ (n : Nat), ∀ (a0 : Option Nat) (x1 : Int) (x2 : Int) (x3 : Int) (x4 : Int) (x5 : Int) (S : AS), inR x1 → inR x2 → inR x3 → inR x4 → inR x5 → f_X6_unite_133 n k95 k103 a0 x1 x2 x3 x4 x5 S = some q → ∀ ls : Array Slot, hp_L ls 8 [(0, rf b a0), (1, iv x1), (2, iv x2), (3, iv x3), (4, iv x4), (5, iv x5)] → hp_J p l e R s m args below meth c b D dA S0 (hp_Q below b D dA S0 1 q args s) S 133 ls [] := by
  have hst : l.stackTraces = false := C.2.2.2.2.2.2.2.2.2.2.1
  intro n
  induction n with
  | zero =>
    intro a0 x1 x2 x3 x4 x5 S hx1 hx2 hx3 hx4 hx5 h
    cases h
  | succ n ih =>
    intro a0 x1 x2 x3 x4 x5 S hx1 hx2 hx3 hx4 hx5 h ls hl
    unfold f_X6_unite_133 at h
    refine j_iload C dX6_unite_133 (hl.at 5 rfl) ?_
    refine j_iload C dX6_unite_135 (hl.at 4 rfl) ?_
    refine j_icmp_ge (tgt := 236) C dX6_unite_137 (by decide) hx5 hx4 (fun b1 => ?_) (fun b1 => ?_)
    · rw [if_pos b1] at h
      obtain ⟨z1, g_z1, h⟩ := bd h
      refine k_iinc (k9 := 2) (lv' := [(2, iv z1), (0, rf b a0), (1, iv x1), (3, iv x3), (4, iv x4), (5, iv x5)]) C dX6_unite_236 hl rfl g_z1 (by decide) rfl (fun hz1 ls hl => ?_)
      refine j_goto (tgt := 103) C dX6_unite_239 (by decide) ?_
      exact hk103 _ _ _ _ hx1 hz1 h ls (hl.sub [1, 2, 0] rfl)
    · rw [if_neg b1] at h
      refine j_aload_n C dX6_unite_140 rfl (hl.at 0 rfl) ?_
      obtain ⟨o2, g_o2, h⟩ := bd h
      refine j_gR C dX6_unite_141 fl_RX6_33 rfl g_o2 ?_
      refine j_aload_n C dX6_unite_144 rfl (hl.at 0 rfl) ?_
      obtain ⟨o3, g_o3, h⟩ := bd h
      refine j_gR C dX6_unite_145 fl_RX6_43 rfl g_o3 ?_
      refine j_iload_n C dX6_unite_148 rfl (hl.at 3 rfl) ?_
      obtain ⟨v4, g_v4, h⟩ := bd h
      refine j_iald C dX6_unite_149 hx3 g_v4 (fun hv4 => ?_)
      refine j_aload_n C dX6_unite_150 rfl (hl.at 0 rfl) ?_
      obtain ⟨o5, g_o5, h⟩ := bd h
      refine j_gR C dX6_unite_151 fl_RX6_49 rfl g_o5 ?_
      refine j_iload_n C dX6_unite_154 rfl (hl.at 2 rfl) ?_
      obtain ⟨v6, g_v6, h⟩ := bd h
      refine j_iald C dX6_unite_155 hx2 g_v6 (fun hv6 => ?_)
      refine j_iload C dX6_unite_156 (hl.at 5 rfl) ?_
      rcases cI_some h with ⟨S7, v8, wv8, hc, h⟩ | ⟨hc, hne⟩
      · refine j_callI C (run_S (As := [iv v4, iv v6, iv x5]) (rest := [rf b o2]) C (m_X6_at hst hv4 hv6 hx5 hc) cs_RX6_125 rfl hl.1.1 (by simp [cat_iv, cat_rf]) (by decide) (by decide) dX6_unite_158) (fun hv8 => ?_)
        obtain ⟨v9, g_v9, h⟩ := bd h
        refine j_iald C dX6_unite_161 hv8 g_v9 (fun hv9 => ?_)
        refine k_istore (lv' := [(6, iv v9), (0, rf b a0), (1, iv x1), (2, iv x2), (3, iv x3), (4, iv x4), (5, iv x5)]) C dX6_unite_162 hl (by decide) rfl (fun ls hl => ?_)
        refine j_aload_n C dX6_unite_164 rfl (hl.at 1 rfl) ?_
        obtain ⟨o10, g_o10, h⟩ := bd h
        refine j_gR C dX6_unite_165 fl_RX6_33 rfl g_o10 ?_
        refine j_aload_n C dX6_unite_168 rfl (hl.at 1 rfl) ?_
        obtain ⟨o11, g_o11, h⟩ := bd h
        refine j_gR C dX6_unite_169 fl_RX6_43 rfl g_o11 ?_
        refine j_iload_n C dX6_unite_172 rfl (hl.at 3 rfl) ?_
        obtain ⟨v12, g_v12, h⟩ := bd h
        refine j_iald C dX6_unite_173 hx2 g_v12 (fun hv12 => ?_)
        refine j_iconst C dX6_unite_174 ?_
        refine j_iload C dX6_unite_175 (hl.at 6 rfl) ?_
        rcases cI_some h with ⟨S13, v14, wv14, hc, h⟩ | ⟨hc, hne⟩
        · refine j_callI C (run_S (As := [iv v12, iv (-1), iv x5]) (rest := [rf b o10]) C (m_X6_at hst hv12 (by decide) hx5 hc) cs_RX6_125 rfl hl.1.1 (by simp [cat_iv, cat_rf]) (by decide) (by decide) dX6_unite_177) (fun hv14 => ?_)
          obtain ⟨v15, g_v15, h⟩ := bd h
          refine j_iald C dX6_unite_180 hv14 g_v15 (fun hv15 => ?_)
          refine k_istore (lv' := [(7, iv v15), (6, iv v9), (0, rf b a0), (1, iv x1), (2, iv x2), (3, iv x3), (4, iv x4), (5, iv x5)]) C dX6_unite_181 hl (by decide) rfl (fun ls hl => ?_)
          refine j_iload C dX6_unite_183 (hl.at 1 rfl) ?_
          refine j_iconst C dX6_unite_185 ?_
          refine j_icmp_eq (tgt := 230) C dX6_unite_186 (by decide) hv9 (by decide) (fun b1 => ?_) (fun b1 => ?_)
          · rw [if_pos b1] at h
            obtain ⟨z16, g_z16, h⟩ := bd h
            refine k_iinc (k9 := 7) (lv' := [(5, iv z16), (7, iv v15), (6, iv v9), (0, rf b a0), (1, iv x1), (2, iv x2), (3, iv x3), (4, iv x4)]) C dX6_unite_230 hl rfl g_z16 (by decide) rfl (fun hz16 ls hl => ?_)
            refine j_goto (tgt := 133) C dX6_unite_233 (by decide) ?_
            exact ih _ _ _ _ _ _ _ hx1 hx2 hx3 hx4 hz16 h ls (hl.sub [3, 4, 5, 6, 7, 0] rfl)
          · rw [if_neg b1] at h
            refine j_iload C dX6_unite_189 (hl.at 0 rfl) ?_
            refine j_iconst C dX6_unite_191 ?_
            refine j_icmp_eq (tgt := 230) C dX6_unite_192 (by decide) hv15 (by decide) (fun b1 => ?_) (fun b1 => ?_)
            · rw [if_pos b1] at h
              obtain ⟨z17, g_z17, h⟩ := bd h
              refine k_iinc (k9 := 7) (lv' := [(5, iv z17), (7, iv v15), (6, iv v9), (0, rf b a0), (1, iv x1), (2, iv x2), (3, iv x3), (4, iv x4)]) C dX6_unite_230 hl rfl g_z17 (by decide) rfl (fun hz17 ls hl => ?_)
              refine j_goto (tgt := 133) C dX6_unite_233 (by decide) ?_
              exact ih _ _ _ _ _ _ _ hx1 hx2 hx3 hx4 hz17 h ls (hl.sub [3, 4, 5, 6, 7, 0] rfl)
            · rw [if_neg b1] at h
              refine j_aload_n C dX6_unite_195 rfl (hl.at 2 rfl) ?_
              refine j_aload_n C dX6_unite_196 rfl (hl.at 2 rfl) ?_
              obtain ⟨o18, g_o18, h⟩ := bd h
              refine j_gR C dX6_unite_197 fl_RX6_52 rfl g_o18 ?_
              refine j_iload_n C dX6_unite_200 rfl (hl.at 5 rfl) ?_
              obtain ⟨v19, g_v19, h⟩ := bd h
              refine j_iald C dX6_unite_201 hx3 g_v19 (fun hv19 => ?_)
              refine j_iload C dX6_unite_202 (hl.at 1 rfl) ?_
              obtain ⟨z20, g_z20, h⟩ := bd h
              refine j_iadd C dX6_unite_204 g_z20 (fun hz20 => ?_)
              refine j_aload_n C dX6_unite_205 rfl (hl.at 2 rfl) ?_
              obtain ⟨o21, g_o21, h⟩ := bd h
              refine j_gR C dX6_unite_206 fl_RX6_52 rfl g_o21 ?_
              refine j_iload_n C dX6_unite_209 rfl (hl.at 4 rfl) ?_
              obtain ⟨v22, g_v22, h⟩ := bd h
              refine j_iald C dX6_unite_210 hx2 g_v22 (fun hv22 => ?_)
              refine j_iload C dX6_unite_211 (hl.at 0 rfl) ?_
              obtain ⟨z23, g_z23, h⟩ := bd h
              refine j_iadd C dX6_unite_213 g_z23 (fun hz23 => ?_)
              obtain ⟨c26, h⟩ := gd_some h
              rcases cI_some h with ⟨S24, v25, wv25, hc, h⟩ | ⟨hc, hne⟩
              · refine j_callI C (run_W (As := [iv z20, iv z23]) (rest := []) C (m_X6_lower hst hz20 hz23 hc) cv_RX6_149 (by decide) rfl c26 rfl hl (by decide) (by decide) (by decide) dX6_unite_214) (fun hv25 => ?_)
                refine j_if_ne (tgt := 224) C dX6_unite_217 (by decide) hv25 (fun b1 => ?_) (fun b1 => ?_)
                · rw [if_neg b1] at h
                  exact w_X6_unite_224 C hT hnm hr hk95 hk103 ih _ _ _ _ _ _ hx2 hx3 hx4 hx5 h ls (hl.sub [2, 4, 5, 6, 7] rfl)
                · rw [if_pos (Decidable.byContradiction b1)] at h
                  refine j_iload_n C dX6_unite_220 rfl (hl.at 3 rfl) ?_
                  refine j_if_eq (tgt := 228) C dX6_unite_221 (by decide) hx1 (fun b1 => ?_) (fun b1 => ?_)
                  · rw [if_pos b1] at h
                    refine j_iconst C dX6_unite_228 ?_
                    refine k_istore_n (lv' := [(1, iv 0), (7, iv v15), (6, iv v9), (0, rf b a0), (2, iv x2), (3, iv x3), (4, iv x4), (5, iv x5)]) C dX6_unite_229 rfl hl (by decide) rfl (fun ls hl => ?_)
                    obtain ⟨z27, g_z27, h⟩ := bd h
                    refine k_iinc (k9 := 7) (lv' := [(5, iv z27), (1, iv 0), (7, iv v15), (6, iv v9), (0, rf b a0), (2, iv x2), (3, iv x3), (4, iv x4)]) C dX6_unite_230 hl rfl g_z27 (by decide) rfl (fun hz27 ls hl => ?_)
                    refine j_goto (tgt := 133) C dX6_unite_233 (by decide) ?_
                    exact ih _ _ _ _ _ _ _ (by decide) hx2 hx3 hx4 hz27 h ls (hl.sub [4, 1, 5, 6, 7, 0] rfl)
                  · rw [if_neg b1] at h
                    exact w_X6_unite_224 C hT hnm hr hk95 hk103 ih _ _ _ _ _ _ hx2 hx3 hx4 hx5 h ls (hl.sub [2, 4, 5, 6, 7] rfl)
              · exact j_thrown C hT (run_W (As := [iv z20, iv z23]) (rest := []) C (m_X6_lower hst hz20 hz23 hc) cv_RX6_149 (by decide) rfl c26 rfl hl (by decide) (by decide) (by decide) dX6_unite_214) hne
        · exact j_thrown C hT (run_S (As := [iv v12, iv (-1), iv x5]) (rest := [rf b o10]) C (m_X6_at hst hv12 (by decide) hx5 hc) cs_RX6_125 rfl hl.1.1 (by simp [cat_iv, cat_rf]) (by decide) (by decide) dX6_unite_177) hne
      · exact j_thrown C hT (run_S (As := [iv v4, iv v6, iv x5]) (rest := [rf b o2]) C (m_X6_at hst hv4 hv6 hx5 hc) cs_RX6_125 rfl hl.1.1 (by simp [cat_iv, cat_rf]) (by decide) (by decide) dX6_unite_158) hne
noncomputable def f_X6_unite_103 (n : Nat) (k95 : Option Nat → Int → AS → Option RS) (a0 : Option Nat) (x1 : Int) (x2 : Int) (S : AS) : Option RS := match n with
  | 0 => none
  | n + 1 =>
    (gI S a0 7 13).bind fun v1 =>
    if v1 ≤ x2 then
      k95 a0 x1 S
    else
      (gR S a0 7 15).bind fun o2 =>
      (aI S o2 8 x2).bind fun v3 =>
      (gR S a0 7 14).bind fun o4 =>
      (aI S o4 8 x2).bind fun v5 =>
      gd (isK S a0 7) <|
      cI (f_X6_ownPins a0 v5 S) fun v7 S6 =>
      f_X6_unite_133 FU k95 (f_X6_unite_103 n k95) a0 x1 x2 v3 v7 0 S6
set_option maxHeartbeats 4000000 in
set_option maxRecDepth 100000 in
theorem w_X6_unite_103 {p : Program} {l : Launch} {e : Env} {R : Room} {s : State} {m : MethodId} {args : Array Value} {below : List Frame} {meth : Method} {c : Code} {b : Nat} {D : va_G} {dA : Nat → ClassId} {S0 : AS} {q : RS} (C : hp_C p l e R s m args below meth c b D dA S0 RX6 cX6_unite 8 7 40) (hT : ∀ x ∈ c.exceptionTable.toList, False) (hnm : meth.name = "unite") (hr : meth.sig.returnType = (some .boolean)) {k95 : Option Nat → Int → AS → Option RS} (hk95 : ∀ (a0 : Option Nat) (x1 : Int) (S : AS), inR x1 → k95 a0 x1 S = some q → ∀ ls : Array Slot, hp_L ls 8 [(0, rf b a0), (1, iv x1)] → hp_J p l e R s m args below meth c b D dA S0 (hp_Q below b D dA S0 1 q args s) S 95 ls []) : ∀ (n : Nat), ∀ (a0 : Option Nat) (x1 : Int) (x2 : Int) (S : AS), inR x1 → inR x2 → f_X6_unite_103 n k95 a0 x1 x2 S = some q → ∀ ls : Array Slot, hp_L ls 8 [(0, rf b a0), (1, iv x1), (2, iv x2)] → hp_J p l e R s m args below meth c b D dA S0 (hp_Q below b D dA S0 1 q args s) S 103 ls [] := by
  have hst : l.stackTraces = false := C.2.2.2.2.2.2.2.2.2.2.1
  intro n
  induction n with
  | zero =>
    intro a0 x1 x2 S hx1 hx2 h
    cases h
  | succ n ih =>
    intro a0 x1 x2 S hx1 hx2 h ls hl
    unfold f_X6_unite_103 at h
    refine j_iload_n C dX6_unite_103 rfl (hl.at 2 rfl) ?_
    refine j_aload_n C dX6_unite_104 rfl (hl.at 0 rfl) ?_
    obtain ⟨v1, g_v1, h⟩ := bd h
    refine j_gI C dX6_unite_105 fl_RX6_139 (Or.inl rfl) g_v1 (fun hv1 => ?_)
    refine j_icmp_ge (tgt := 242) C dX6_unite_108 (by decide) hx2 hv1 (fun b1 => ?_) (fun b1 => ?_)
    · rw [if_pos b1] at h
      refine j_goto (tgt := 95) C dX6_unite_242 (by decide) ?_
      exact hk95 _ _ _ hx1 h ls (hl.sub [0, 1] rfl)
    · rw [if_neg b1] at h
      refine j_aload_n C dX6_unite_111 rfl (hl.at 0 rfl) ?_
      obtain ⟨o2, g_o2, h⟩ := bd h
      refine j_gR C dX6_unite_112 fl_RX6_46 rfl g_o2 ?_
      refine j_iload_n C dX6_unite_115 rfl (hl.at 2 rfl) ?_
      obtain ⟨v3, g_v3, h⟩ := bd h
      refine j_iald C dX6_unite_116 hx2 g_v3 (fun hv3 => ?_)
      refine k_istore_n (lv' := [(3, iv v3), (0, rf b a0), (1, iv x1), (2, iv x2)]) C dX6_unite_117 rfl hl (by decide) rfl (fun ls hl => ?_)
      refine j_aload_n C dX6_unite_118 rfl (hl.at 1 rfl) ?_
      refine j_aload_n C dX6_unite_119 rfl (hl.at 1 rfl) ?_
      obtain ⟨o4, g_o4, h⟩ := bd h
      refine j_gR C dX6_unite_120 fl_RX6_43 rfl g_o4 ?_
      refine j_iload_n C dX6_unite_123 rfl (hl.at 3 rfl) ?_
      obtain ⟨v5, g_v5, h⟩ := bd h
      refine j_iald C dX6_unite_124 hx2 g_v5 (fun hv5 => ?_)
      obtain ⟨c8, h⟩ := gd_some h
      rcases cI_some h with ⟨S6, v7, wv7, hc, h⟩ | ⟨hc, hne⟩
      · refine j_callI C (run_W (As := [iv v5]) (rest := []) C (m_X6_ownPins hst hv5 hc) cv_RX6_117 (by decide) rfl c8 rfl hl (by decide) (by decide) (by decide) dX6_unite_125) (fun hv7 => ?_)
        refine k_istore (lv' := [(4, iv v7), (3, iv v3), (0, rf b a0), (1, iv x1), (2, iv x2)]) C dX6_unite_128 hl (by decide) rfl (fun ls hl => ?_)
        refine j_iconst C dX6_unite_130 ?_
        refine k_istore (lv' := [(5, iv 0), (4, iv v7), (3, iv v3), (0, rf b a0), (1, iv x1), (2, iv x2)]) C dX6_unite_131 hl (by decide) rfl (fun ls hl => ?_)
        exact w_X6_unite_133 C hT hnm hr hk95 ih FU _ _ _ _ _ _ _ hx1 hx2 hv3 hv7 (by decide) h ls (hl.sub [3, 4, 5, 2, 1, 0] rfl)
      · exact j_thrown C hT (run_W (As := [iv v5]) (rest := []) C (m_X6_ownPins hst hv5 hc) cv_RX6_117 (by decide) rfl c8 rfl hl (by decide) (by decide) (by decide) dX6_unite_125) hne
noncomputable def f_X6_unite_95 (n : Nat) (a0 : Option Nat) (x1 : Int) (S : AS) : Option RS := match n with
  | 0 => none
  | n + 1 =>
    if x1 = 0 then
      rZ 1 S
    else
      f_X6_unite_103 FU (f_X6_unite_95 n) a0 0 1 S
set_option maxHeartbeats 4000000 in
set_option maxRecDepth 100000 in
theorem w_X6_unite_95 {p : Program} {l : Launch} {e : Env} {R : Room} {s : State} {m : MethodId} {args : Array Value} {below : List Frame} {meth : Method} {c : Code} {b : Nat} {D : va_G} {dA : Nat → ClassId} {S0 : AS} {q : RS} (C : hp_C p l e R s m args below meth c b D dA S0 RX6 cX6_unite 8 7 40) (hT : ∀ x ∈ c.exceptionTable.toList, False) (hnm : meth.name = "unite") (hr : meth.sig.returnType = (some .boolean)) : ∀ (n : Nat), ∀ (a0 : Option Nat) (x1 : Int) (S : AS), inR x1 → f_X6_unite_95 n a0 x1 S = some q → ∀ ls : Array Slot, hp_L ls 8 [(0, rf b a0), (1, iv x1)] → hp_J p l e R s m args below meth c b D dA S0 (hp_Q below b D dA S0 1 q args s) S 95 ls [] := by
  have hst : l.stackTraces = false := C.2.2.2.2.2.2.2.2.2.2.1
  intro n
  induction n with
  | zero =>
    intro a0 x1 S hx1 h
    cases h
  | succ n ih =>
    intro a0 x1 S hx1 h ls hl
    unfold f_X6_unite_95 at h
    refine j_iload_n C dX6_unite_95 rfl (hl.at 1 rfl) ?_
    refine j_if_eq (tgt := 245) C dX6_unite_96 (by decide) hx1 (fun b1 => ?_) (fun b1 => ?_)
    · rw [if_pos b1] at h
      refine j_iconst C dX6_unite_245 ?_
      exact j_zret C dX6_unite_246 hr h
    · rw [if_neg b1] at h
      refine j_iconst C dX6_unite_99 ?_
      refine k_istore_n (lv' := [(1, iv 0), (0, rf b a0)]) C dX6_unite_100 rfl hl (by decide) rfl (fun ls hl => ?_)
      refine j_iconst C dX6_unite_101 ?_
      refine k_istore_n (lv' := [(2, iv 1), (1, iv 0), (0, rf b a0)]) C dX6_unite_102 rfl hl (by decide) rfl (fun ls hl => ?_)
      exact w_X6_unite_103 C hT hnm hr ih FU _ _ _ _ (by decide) (by decide) h ls (hl.sub [2, 1, 0] rfl)
noncomputable def f_X6_unite_67 (n : Nat) (a0 : Option Nat) (x1 : Int) (S : AS) : Option RS := match n with
  | 0 => none
  | n + 1 =>
    (gR S a0 7 17).bind fun o1 =>
    (gI S a0 7 13).bind fun v2 =>
    (aI S o1 8 v2).bind fun v3 =>
    if v3 ≤ x1 then
      f_X6_unite_95 FU a0 1 S
    else
      (gR S a0 7 23).bind fun o4 =>
      (sI S o4 8 x1 x1).bind fun S5 =>
      (chk (x1 + 1)).bind fun z6 =>
      f_X6_unite_67 n a0 z6 S5
set_option maxHeartbeats 4000000 in
set_option maxRecDepth 100000 in
theorem w_X6_unite_67 {p : Program} {l : Launch} {e : Env} {R : Room} {s : State} {m : MethodId} {args : Array Value} {below : List Frame} {meth : Method} {c : Code} {b : Nat} {D : va_G} {dA : Nat → ClassId} {S0 : AS} {q : RS} (C : hp_C p l e R s m args below meth c b D dA S0 RX6 cX6_unite 8 7 40) (hT : ∀ x ∈ c.exceptionTable.toList, False) (hnm : meth.name = "unite") (hr : meth.sig.returnType = (some .boolean)) : ∀ (n : Nat), ∀ (a0 : Option Nat) (x1 : Int) (S : AS), inR x1 → f_X6_unite_67 n a0 x1 S = some q → ∀ ls : Array Slot, hp_L ls 8 [(0, rf b a0), (1, iv x1)] → hp_J p l e R s m args below meth c b D dA S0 (hp_Q below b D dA S0 1 q args s) S 67 ls [] := by
  have hst : l.stackTraces = false := C.2.2.2.2.2.2.2.2.2.2.1
  intro n
  induction n with
  | zero =>
    intro a0 x1 S hx1 h
    cases h
  | succ n ih =>
    intro a0 x1 S hx1 h ls hl
    unfold f_X6_unite_67 at h
    refine j_iload_n C dX6_unite_67 rfl (hl.at 1 rfl) ?_
    refine j_aload_n C dX6_unite_68 rfl (hl.at 0 rfl) ?_
    obtain ⟨o1, g_o1, h⟩ := bd h
    refine j_gR C dX6_unite_69 fl_RX6_52 rfl g_o1 ?_
    refine j_aload_n C dX6_unite_72 rfl (hl.at 0 rfl) ?_
    obtain ⟨v2, g_v2, h⟩ := bd h
    refine j_gI C dX6_unite_73 fl_RX6_139 (Or.inl rfl) g_v2 (fun hv2 => ?_)
    obtain ⟨v3, g_v3, h⟩ := bd h
    refine j_iald C dX6_unite_76 hv2 g_v3 (fun hv3 => ?_)
    refine j_icmp_ge (tgt := 93) C dX6_unite_77 (by decide) hx1 hv3 (fun b1 => ?_) (fun b1 => ?_)
    · rw [if_pos b1] at h
      refine j_iconst C dX6_unite_93 ?_
      refine k_istore_n (lv' := [(1, iv 1), (0, rf b a0)]) C dX6_unite_94 rfl hl (by decide) rfl (fun ls hl => ?_)
      exact w_X6_unite_95 C hT hnm hr FU _ _ _ (by decide) h ls (hl.sub [1, 0] rfl)
    · rw [if_neg b1] at h
      refine j_aload_n C dX6_unite_80 rfl (hl.at 0 rfl) ?_
      obtain ⟨o4, g_o4, h⟩ := bd h
      refine j_gR C dX6_unite_81 fl_RX6_67 rfl g_o4 ?_
      refine j_iload_n C dX6_unite_84 rfl (hl.at 1 rfl) ?_
      refine j_iload_n C dX6_unite_85 rfl (hl.at 1 rfl) ?_
      obtain ⟨S5, g_S5, h⟩ := bd h
      refine j_iast C dX6_unite_86 hx1 hx1 g_S5 ?_
      obtain ⟨z6, g_z6, h⟩ := bd h
      refine k_iinc (k9 := 1) (lv' := [(1, iv z6), (0, rf b a0)]) C dX6_unite_87 hl rfl g_z6 (by decide) rfl (fun hz6 ls hl => ?_)
      refine j_goto (tgt := 67) C dX6_unite_90 (by decide) ?_
      exact ih _ _ _ hz6 h ls (hl.sub [1, 0] rfl)
noncomputable def f_X6_unite_9 (n : Nat) (a0 : Option Nat) (x1 : Int) (S : AS) : Option RS := match n with
  | 0 => none
  | n + 1 =>
    (gI S a0 7 13).bind fun v1 =>
    if v1 ≤ x1 then
      f_X6_unite_67 FU a0 0 S
    else
      (gR S a0 7 17).bind fun o2 =>
      (chk (x1 + 1)).bind fun z3 =>
      (gR S a0 7 17).bind fun o4 =>
      (aI S o4 8 x1).bind fun v5 =>
      (gR S a0 7 7).bind fun o6 =>
      (gR S a0 7 14).bind fun o7 =>
      (aI S o7 8 x1).bind fun v8 =>
      (aI S o6 8 v8).bind fun v9 =>
      (chk (v5 + v9)).bind fun z10 =>
      (sI S o2 8 z3 z10).bind fun S11 =>
      (gR S11 a0 7 17).bind fun o12 =>
      (chk (x1 + 1)).bind fun z13 =>
      (aI S11 o12 8 z13).bind fun v14 =>
      if v14 ≤ 3000 then
        (chk (x1 + 1)).bind fun z15 =>
        f_X6_unite_9 n a0 z15 S11
      else
        rZ 0 S11
set_option maxHeartbeats 4000000 in
set_option maxRecDepth 100000 in
theorem w_X6_unite_9 {p : Program} {l : Launch} {e : Env} {R : Room} {s : State} {m : MethodId} {args : Array Value} {below : List Frame} {meth : Method} {c : Code} {b : Nat} {D : va_G} {dA : Nat → ClassId} {S0 : AS} {q : RS} (C : hp_C p l e R s m args below meth c b D dA S0 RX6 cX6_unite 8 7 40) (hT : ∀ x ∈ c.exceptionTable.toList, False) (hnm : meth.name = "unite") (hr : meth.sig.returnType = (some .boolean)) : ∀ (n : Nat), ∀ (a0 : Option Nat) (x1 : Int) (S : AS), inR x1 → f_X6_unite_9 n a0 x1 S = some q → ∀ ls : Array Slot, hp_L ls 8 [(0, rf b a0), (1, iv x1)] → hp_J p l e R s m args below meth c b D dA S0 (hp_Q below b D dA S0 1 q args s) S 9 ls [] := by
  have hst : l.stackTraces = false := C.2.2.2.2.2.2.2.2.2.2.1
  intro n
  induction n with
  | zero =>
    intro a0 x1 S hx1 h
    cases h
  | succ n ih =>
    intro a0 x1 S hx1 h ls hl
    unfold f_X6_unite_9 at h
    refine j_iload_n C dX6_unite_9 rfl (hl.at 1 rfl) ?_
    refine j_aload_n C dX6_unite_10 rfl (hl.at 0 rfl) ?_
    obtain ⟨v1, g_v1, h⟩ := bd h
    refine j_gI C dX6_unite_11 fl_RX6_139 (Or.inl rfl) g_v1 (fun hv1 => ?_)
    refine j_icmp_ge (tgt := 65) C dX6_unite_14 (by decide) hx1 hv1 (fun b1 => ?_) (fun b1 => ?_)
    · rw [if_pos b1] at h
      refine j_iconst C dX6_unite_65 ?_
      refine k_istore_n (lv' := [(1, iv 0), (0, rf b a0)]) C dX6_unite_66 rfl hl (by decide) rfl (fun ls hl => ?_)
      exact w_X6_unite_67 C hT hnm hr FU _ _ _ (by decide) h ls (hl.sub [1, 0] rfl)
    · rw [if_neg b1] at h
      refine j_aload_n C dX6_unite_17 rfl (hl.at 0 rfl) ?_
      obtain ⟨o2, g_o2, h⟩ := bd h
      refine j_gR C dX6_unite_18 fl_RX6_52 rfl g_o2 ?_
      refine j_iload_n C dX6_unite_21 rfl (hl.at 1 rfl) ?_
      refine j_iconst C dX6_unite_22 ?_
      obtain ⟨z3, g_z3, h⟩ := bd h
      refine j_iadd C dX6_unite_23 g_z3 (fun hz3 => ?_)
      refine j_aload_n C dX6_unite_24 rfl (hl.at 0 rfl) ?_
      obtain ⟨o4, g_o4, h⟩ := bd h
      refine j_gR C dX6_unite_25 fl_RX6_52 rfl g_o4 ?_
      refine j_iload_n C dX6_unite_28 rfl (hl.at 1 rfl) ?_
      obtain ⟨v5, g_v5, h⟩ := bd h
      refine j_iald C dX6_unite_29 hx1 g_v5 (fun hv5 => ?_)
      refine j_aload_n C dX6_unite_30 rfl (hl.at 0 rfl) ?_
      obtain ⟨o6, g_o6, h⟩ := bd h
      refine j_gR C dX6_unite_31 fl_RX6_26 rfl g_o6 ?_
      refine j_aload_n C dX6_unite_34 rfl (hl.at 0 rfl) ?_
      obtain ⟨o7, g_o7, h⟩ := bd h
      refine j_gR C dX6_unite_35 fl_RX6_43 rfl g_o7 ?_
      refine j_iload_n C dX6_unite_38 rfl (hl.at 1 rfl) ?_
      obtain ⟨v8, g_v8, h⟩ := bd h
      refine j_iald C dX6_unite_39 hx1 g_v8 (fun hv8 => ?_)
      obtain ⟨v9, g_v9, h⟩ := bd h
      refine j_iald C dX6_unite_40 hv8 g_v9 (fun hv9 => ?_)
      obtain ⟨z10, g_z10, h⟩ := bd h
      refine j_iadd C dX6_unite_41 g_z10 (fun hz10 => ?_)
      obtain ⟨S11, g_S11, h⟩ := bd h
      refine j_iast C dX6_unite_42 hz3 hz10 g_S11 ?_
      refine j_aload_n C dX6_unite_43 rfl (hl.at 0 rfl) ?_
      obtain ⟨o12, g_o12, h⟩ := bd h
      refine j_gR C dX6_unite_44 fl_RX6_52 rfl g_o12 ?_
      refine j_iload_n C dX6_unite_47 rfl (hl.at 1 rfl) ?_
      refine j_iconst C dX6_unite_48 ?_
      obtain ⟨z13, g_z13, h⟩ := bd h
      refine j_iadd C dX6_unite_49 g_z13 (fun hz13 => ?_)
      obtain ⟨v14, g_v14, h⟩ := bd h
      refine j_iald C dX6_unite_50 hz13 g_v14 (fun hv14 => ?_)
      refine j_sipush (x := 3000) C dX6_unite_51 (by decide) ?_
      refine j_icmp_le (tgt := 59) C dX6_unite_54 (by decide) hv14 (by decide) (fun b1 => ?_) (fun b1 => ?_)
      · rw [if_pos b1] at h
        obtain ⟨z15, g_z15, h⟩ := bd h
        refine k_iinc (k9 := 1) (lv' := [(1, iv z15), (0, rf b a0)]) C dX6_unite_59 hl rfl g_z15 (by decide) rfl (fun hz15 ls hl => ?_)
        refine j_goto (tgt := 9) C dX6_unite_62 (by decide) ?_
        exact ih _ _ _ hz15 h ls (hl.sub [1, 0] rfl)
      · rw [if_neg b1] at h
        refine j_iconst C dX6_unite_57 ?_
        exact j_zret C dX6_unite_58 hr h
noncomputable def f_X6_unite (a0 : Option Nat) (S : AS) : Option RS :=
  (gR S a0 7 17).bind fun o1 =>
  (sI S o1 8 0 0).bind fun S2 =>
  f_X6_unite_9 FU a0 0 S2
set_option maxHeartbeats 4000000 in
set_option maxRecDepth 100000 in
theorem m_X6_unite {l : Launch} {b : Nat} {D : va_G} {dA : Nat → ClassId} (hst : l.stackTraces = false) {a0 : Option Nat} {S : AS} {q : RS} (h : f_X6_unite a0 S = some q) : hp_M l b D dA yX6_unite cX6_unite 8 (some .boolean) 7 40 [rf b a0] S 1 q := by
  have hcat : ∀ v ∈ ([rf b a0] : List Value), v.category = 1 := (by intro v hv; simp only [List.mem_cons, List.not_mem_nil, or_false] at hv; rcases hv with rfl <;> first | exact cat_iv _ | exact cat_rf _ _)
  refine hp_ofJ (own := RX6) hst (by decide +kernel) rfl hcat (Nat.le_of_ble_eq_true rfl) ?_
  intro p e R s m args below meth c C hT hnm hr ls hl9
  have hl : hp_L ls 8 [(0, rf b a0)] := hp_L.of hl9 hcat
  unfold f_X6_unite at h
  refine j_aload_n C dX6_unite_0 rfl (hl.at 0 rfl) ?_
  obtain ⟨o1, g_o1, h⟩ := bd h
  refine j_gR C dX6_unite_1 fl_RX6_52 rfl g_o1 ?_
  refine j_iconst C dX6_unite_4 ?_
  refine j_iconst C dX6_unite_5 ?_
  obtain ⟨S2, g_S2, h⟩ := bd h
  refine j_iast C dX6_unite_6 (by decide) (by decide) g_S2 ?_
  refine j_iconst C dX6_unite_7 ?_
  refine k_istore_n (lv' := [(1, iv 0), (0, rf b a0)]) C dX6_unite_8 rfl hl (by decide) rfl (fun ls hl => ?_)
  exact w_X6_unite_9 C hT hnm hr FU _ _ _ (by decide) h ls (hl.sub [1, 0] rfl)
noncomputable def f_X6_number_4 (n : Nat) (a0 : Option Nat) (x1 : Int) (x2 : Int) (S : AS) : Option RS := match n with
  | 0 => none
  | n + 1 =>
    (gR S a0 7 17).bind fun o1 =>
    (gI S a0 7 13).bind fun v2 =>
    (aI S o1 8 v2).bind fun v3 =>
    if v3 ≤ x2 then
      rI x1 S
    else
      (gR S a0 7 23).bind fun o4 =>
      (aI S o4 8 x2).bind fun v5 =>
      if v5 = x2 then
        (gR S a0 7 24).bind fun o13 =>
        (sI S o13 8 x2 x1).bind fun S14 =>
        (chk (x1 + 1)).bind fun z15 =>
        (chk (x2 + 1)).bind fun z16 =>
        f_X6_number_4 n a0 z15 z16 S14
      else
        (gR S a0 7 24).bind fun o6 =>
        (gR S a0 7 24).bind fun o7 =>
        (gR S a0 7 23).bind fun o8 =>
        (aI S o8 8 x2).bind fun v9 =>
        (aI S o7 8 v9).bind fun v10 =>
        (sI S o6 8 x2 v10).bind fun S11 =>
        (chk (x2 + 1)).bind fun z12 =>
        f_X6_number_4 n a0 x1 z12 S11
set_option maxHeartbeats 4000000 in
set_option maxRecDepth 100000 in
theorem w_X6_number_4 {p : Program} {l : Launch} {e : Env} {R : Room} {s : State} {m : MethodId} {args : Array Value} {below : List Frame} {meth : Method} {c : Code} {b : Nat} {D : va_G} {dA : Nat → ClassId} {S0 : AS} {q : RS} (C : hp_C p l e R s m args below meth c b D dA S0 RX6 cX6_number 3 6 16) (hT : ∀ x ∈ c.exceptionTable.toList, False) (hnm : meth.name = "number") (hr : meth.sig.returnType = (some .int)) : ∀ (n : Nat), ∀ (a0 : Option Nat) (x1 : Int) (x2 : Int) (S : AS), inR x1 → inR x2 → f_X6_number_4 n a0 x1 x2 S = some q → ∀ ls : Array Slot, hp_L ls 3 [(0, rf b a0), (1, iv x1), (2, iv x2)] → hp_J p l e R s m args below meth c b D dA S0 (hp_Q below b D dA S0 1 q args s) S 4 ls [] := by
  have hst : l.stackTraces = false := C.2.2.2.2.2.2.2.2.2.2.1
  intro n
  induction n with
  | zero =>
    intro a0 x1 x2 S hx1 hx2 h
    cases h
  | succ n ih =>
    intro a0 x1 x2 S hx1 hx2 h ls hl
    unfold f_X6_number_4 at h
    refine j_iload_n C dX6_number_4 rfl (hl.at 2 rfl) ?_
    refine j_aload_n C dX6_number_5 rfl (hl.at 0 rfl) ?_
    obtain ⟨o1, g_o1, h⟩ := bd h
    refine j_gR C dX6_number_6 fl_RX6_52 rfl g_o1 ?_
    refine j_aload_n C dX6_number_9 rfl (hl.at 0 rfl) ?_
    obtain ⟨v2, g_v2, h⟩ := bd h
    refine j_gI C dX6_number_10 fl_RX6_139 (Or.inl rfl) g_v2 (fun hv2 => ?_)
    obtain ⟨v3, g_v3, h⟩ := bd h
    refine j_iald C dX6_number_13 hv2 g_v3 (fun hv3 => ?_)
    refine j_icmp_ge (tgt := 63) C dX6_number_14 (by decide) hx2 hv3 (fun b1 => ?_) (fun b1 => ?_)
    · rw [if_pos b1] at h
      refine j_iload_n C dX6_number_63 rfl (hl.at 1 rfl) ?_
      exact j_iret C dX6_number_64 hr hx1 h
    · rw [if_neg b1] at h
      refine j_aload_n C dX6_number_17 rfl (hl.at 0 rfl) ?_
      obtain ⟨o4, g_o4, h⟩ := bd h
      refine j_gR C dX6_number_18 fl_RX6_67 rfl g_o4 ?_
      refine j_iload_n C dX6_number_21 rfl (hl.at 2 rfl) ?_
      obtain ⟨v5, g_v5, h⟩ := bd h
      refine j_iald C dX6_number_22 hx2 g_v5 (fun hv5 => ?_)
      refine j_iload_n C dX6_number_23 rfl (hl.at 2 rfl) ?_
      refine j_icmp_ne (tgt := 40) C dX6_number_24 (by decide) hv5 hx2 (fun b1 => ?_) (fun b1 => ?_)
      · rw [if_neg b1] at h
        refine j_aload_n C dX6_number_40 rfl (hl.at 0 rfl) ?_
        obtain ⟨o6, g_o6, h⟩ := bd h
        refine j_gR C dX6_number_41 fl_RX6_70 rfl g_o6 ?_
        refine j_iload_n C dX6_number_44 rfl (hl.at 2 rfl) ?_
        refine j_aload_n C dX6_number_45 rfl (hl.at 0 rfl) ?_
        obtain ⟨o7, g_o7, h⟩ := bd h
        refine j_gR C dX6_number_46 fl_RX6_70 rfl g_o7 ?_
        refine j_aload_n C dX6_number_49 rfl (hl.at 0 rfl) ?_
        obtain ⟨o8, g_o8, h⟩ := bd h
        refine j_gR C dX6_number_50 fl_RX6_67 rfl g_o8 ?_
        refine j_iload_n C dX6_number_53 rfl (hl.at 2 rfl) ?_
        obtain ⟨v9, g_v9, h⟩ := bd h
        refine j_iald C dX6_number_54 hx2 g_v9 (fun hv9 => ?_)
        obtain ⟨v10, g_v10, h⟩ := bd h
        refine j_iald C dX6_number_55 hv9 g_v10 (fun hv10 => ?_)
        obtain ⟨S11, g_S11, h⟩ := bd h
        refine j_iast C dX6_number_56 hx2 hv10 g_S11 ?_
        obtain ⟨z12, g_z12, h⟩ := bd h
        refine k_iinc (k9 := 2) (lv' := [(2, iv z12), (0, rf b a0), (1, iv x1)]) C dX6_number_57 hl rfl g_z12 (by decide) rfl (fun hz12 ls hl => ?_)
        refine j_goto (tgt := 4) C dX6_number_60 (by decide) ?_
        exact ih _ _ _ _ hx1 hz12 h ls (hl.sub [1, 2, 0] rfl)
      · rw [if_pos (Decidable.byContradiction b1)] at h
        refine j_aload_n C dX6_number_27 rfl (hl.at 0 rfl) ?_
        obtain ⟨o13, g_o13, h⟩ := bd h
        refine j_gR C dX6_number_28 fl_RX6_70 rfl g_o13 ?_
        refine j_iload_n C dX6_number_31 rfl (hl.at 2 rfl) ?_
        refine j_iload_n C dX6_number_32 rfl (hl.at 1 rfl) ?_
        obtain ⟨S14, g_S14, h⟩ := bd h
        refine j_iast C dX6_number_33 hx2 hx1 g_S14 ?_
        obtain ⟨z15, g_z15, h⟩ := bd h
        refine k_iinc (k9 := 1) (lv' := [(1, iv z15), (0, rf b a0), (2, iv x2)]) C dX6_number_34 hl rfl g_z15 (by decide) rfl (fun hz15 ls hl => ?_)
        refine j_goto (tgt := 57) C dX6_number_37 (by decide) ?_
        obtain ⟨z16, g_z16, h⟩ := bd h
        refine k_iinc (k9 := 2) (lv' := [(2, iv z16), (1, iv z15), (0, rf b a0)]) C dX6_number_57 hl rfl g_z16 (by decide) rfl (fun hz16 ls hl => ?_)
        refine j_goto (tgt := 4) C dX6_number_60 (by decide) ?_
        exact ih _ _ _ _ hz15 hz16 h ls (hl.sub [2, 1, 0] rfl)
noncomputable def f_X6_number (a0 : Option Nat) (S : AS) : Option RS :=
  f_X6_number_4 FU a0 0 0 S
set_option maxHeartbeats 4000000 in
set_option maxRecDepth 100000 in
theorem m_X6_number {l : Launch} {b : Nat} {D : va_G} {dA : Nat → ClassId} (hst : l.stackTraces = false) {a0 : Option Nat} {S : AS} {q : RS} (h : f_X6_number a0 S = some q) : hp_M l b D dA yX6_number cX6_number 3 (some .int) 6 16 [rf b a0] S 1 q := by
  have hcat : ∀ v ∈ ([rf b a0] : List Value), v.category = 1 := (by intro v hv; simp only [List.mem_cons, List.not_mem_nil, or_false] at hv; rcases hv with rfl <;> first | exact cat_iv _ | exact cat_rf _ _)
  refine hp_ofJ (own := RX6) hst (by decide +kernel) rfl hcat (Nat.le_of_ble_eq_true rfl) ?_
  intro p e R s m args below meth c C hT hnm hr ls hl9
  have hl : hp_L ls 3 [(0, rf b a0)] := hp_L.of hl9 hcat
  unfold f_X6_number at h
  refine j_iconst C dX6_number_0 ?_
  refine k_istore_n (lv' := [(1, iv 0), (0, rf b a0)]) C dX6_number_1 rfl hl (by decide) rfl (fun ls hl => ?_)
  refine j_iconst C dX6_number_2 ?_
  refine k_istore_n (lv' := [(2, iv 0), (1, iv 0), (0, rf b a0)]) C dX6_number_3 rfl hl (by decide) rfl (fun ls hl => ?_)
  exact w_X6_number_4 C hT hnm hr FU _ _ _ _ (by decide) (by decide) h ls (hl.sub [2, 1, 0] rfl)
noncomputable def f_X6_setWay_85 (n : Nat) (a0 : Option Nat) (x4 : Int) (x5 : Int) (x6 : Int) (S : AS) : Option RS := match n with
  | 0 => none
  | n + 1 =>
    (gR S a0 7 15).bind fun o1 =>
    (aI S o1 8 x6).bind fun v2 =>
    if v2 = (-1) then
      rV S
    else
      (gR S a0 7 12).bind fun o3 =>
      (chk (24 * x4)).bind fun z4 =>
      (chk (z4 + x5)).bind fun z5 =>
      (gR S a0 7 16).bind fun o6 =>
      (aI S o6 8 x6).bind fun v7 =>
      (sI S o3 8 z5 v7).bind fun S8 =>
      (chk (x5 + (-1))).bind fun z9 =>
      (gR S8 a0 7 15).bind fun o10 =>
      (aI S8 o10 8 x6).bind fun v11 =>
      f_X6_setWay_85 n a0 x4 z9 v11 S8
set_option maxHeartbeats 4000000 in
set_option maxRecDepth 100000 in
theorem w_X6_setWay_85 {p : Program} {l : Launch} {e : Env} {R : Room} {s : State} {m : MethodId} {args : Array Value} {below : List Frame} {meth : Method} {c : Code} {b : Nat} {D : va_G} {dA : Nat → ClassId} {S0 : AS} {q : RS} (C : hp_C p l e R s m args below meth c b D dA S0 RX6 cX6_setWay 7 6 16) (hT : ∀ x ∈ c.exceptionTable.toList, False) (hnm : meth.name = "setWay") (hr : meth.sig.returnType = none) : ∀ (n : Nat), ∀ (a0 : Option Nat) (x4 : Int) (x5 : Int) (x6 : Int) (S : AS), inR x4 → inR x5 → inR x6 → f_X6_setWay_85 n a0 x4 x5 x6 S = some q → ∀ ls : Array Slot, hp_L ls 7 [(0, rf b a0), (4, iv x4), (5, iv x5), (6, iv x6)] → hp_J p l e R s m args below meth c b D dA S0 (hp_Q below b D dA S0 0 q args s) S 85 ls [] := by
  have hst : l.stackTraces = false := C.2.2.2.2.2.2.2.2.2.2.1
  intro n
  induction n with
  | zero =>
    intro a0 x4 x5 x6 S hx4 hx5 hx6 h
    cases h
  | succ n ih =>
    intro a0 x4 x5 x6 S hx4 hx5 hx6 h ls hl
    unfold f_X6_setWay_85 at h
    refine j_aload_n C dX6_setWay_85 rfl (hl.at 0 rfl) ?_
    obtain ⟨o1, g_o1, h⟩ := bd h
    refine j_gR C dX6_setWay_86 fl_RX6_46 rfl g_o1 ?_
    refine j_iload C dX6_setWay_89 (hl.at 3 rfl) ?_
    obtain ⟨v2, g_v2, h⟩ := bd h
    refine j_iald C dX6_setWay_91 hx6 g_v2 (fun hv2 => ?_)
    refine j_iconst C dX6_setWay_92 ?_
    refine j_icmp_eq (tgt := 131) C dX6_setWay_93 (by decide) hv2 (by decide) (fun b1 => ?_) (fun b1 => ?_)
    · rw [if_pos b1] at h
      exact j_vret C dX6_setWay_131 hr h
    · rw [if_neg b1] at h
      refine j_aload_n C dX6_setWay_96 rfl (hl.at 0 rfl) ?_
      obtain ⟨o3, g_o3, h⟩ := bd h
      refine j_gR C dX6_setWay_97 fl_RX6_40 rfl g_o3 ?_
      refine j_bipush (x := 24) C dX6_setWay_100 (by decide) ?_
      refine j_iload C dX6_setWay_102 (hl.at 1 rfl) ?_
      obtain ⟨z4, g_z4, h⟩ := bd h
      refine j_imul C dX6_setWay_104 g_z4 (fun hz4 => ?_)
      refine j_iload C dX6_setWay_105 (hl.at 2 rfl) ?_
      obtain ⟨z5, g_z5, h⟩ := bd h
      refine j_iadd C dX6_setWay_107 g_z5 (fun hz5 => ?_)
      refine j_aload_n C dX6_setWay_108 rfl (hl.at 0 rfl) ?_
      obtain ⟨o6, g_o6, h⟩ := bd h
      refine j_gR C dX6_setWay_109 fl_RX6_49 rfl g_o6 ?_
      refine j_iload C dX6_setWay_112 (hl.at 3 rfl) ?_
      obtain ⟨v7, g_v7, h⟩ := bd h
      refine j_iald C dX6_setWay_114 hx6 g_v7 (fun hv7 => ?_)
      obtain ⟨S8, g_S8, h⟩ := bd h
      refine j_iast C dX6_setWay_115 hz5 hv7 g_S8 ?_
      obtain ⟨z9, g_z9, h⟩ := bd h
      refine k_iinc (k9 := 2) (lv' := [(5, iv z9), (0, rf b a0), (4, iv x4), (6, iv x6)]) C dX6_setWay_116 hl rfl g_z9 (by decide) rfl (fun hz9 ls hl => ?_)
      refine j_aload_n C dX6_setWay_119 rfl (hl.at 1 rfl) ?_
      obtain ⟨o10, g_o10, h⟩ := bd h
      refine j_gR C dX6_setWay_120 fl_RX6_46 rfl g_o10 ?_
      refine j_iload C dX6_setWay_123 (hl.at 3 rfl) ?_
      obtain ⟨v11, g_v11, h⟩ := bd h
      refine j_iald C dX6_setWay_125 hx6 g_v11 (fun hv11 => ?_)
      refine k_istore (lv' := [(6, iv v11), (5, iv z9), (0, rf b a0), (4, iv x4)]) C dX6_setWay_126 hl (by decide) rfl (fun ls hl => ?_)
      refine j_goto (tgt := 85) C dX6_setWay_128 (by decide) ?_
      exact ih _ _ _ _ _ hx4 hz9 hv11 h ls (hl.sub [2, 3, 1, 0] rfl)
noncomputable def f_X6_setWay_10 (n : Nat) (a0 : Option Nat) (x1 : Int) (x2 : Int) (x3 : Int) (x4 : Int) (S : AS) : Option RS := match n with
  | 0 => none
  | n + 1 =>
    (gR S a0 7 15).bind fun o1 =>
    (aI S o1 8 x4).bind fun v2 =>
    if v2 = (-1) then
      (chk (64 * x1)).bind fun z3 =>
      (chk (z3 + x2)).bind fun z4 =>
      (gR S a0 7 11).bind fun o5 =>
      (sI S o5 8 z4 x3).bind fun S6 =>
      (gR S6 a0 7 12).bind fun o7 =>
      (chk (24 * z4)).bind fun z8 =>
      (chk (z8 + x3)).bind fun z9 =>
      (chk (z9 - 1)).bind fun z10 =>
      (gR S6 a0 7 20).bind fun o11 =>
      (aI S6 o11 8 x2).bind fun v12 =>
      (sI S6 o7 8 z10 v12).bind fun S13 =>
      (chk (x3 - 2)).bind fun z14 =>
      (gR S13 a0 7 19).bind fun o15 =>
      (aI S13 o15 8 x2).bind fun v16 =>
      f_X6_setWay_85 FU a0 z4 z14 v16 S13
    else
      (chk (x3 + 1)).bind fun z17 =>
      (gR S a0 7 15).bind fun o18 =>
      (aI S o18 8 x4).bind fun v19 =>
      f_X6_setWay_10 n a0 x1 x2 z17 v19 S
set_option maxHeartbeats 4000000 in
set_option maxRecDepth 100000 in
theorem w_X6_setWay_10 {p : Program} {l : Launch} {e : Env} {R : Room} {s : State} {m : MethodId} {args : Array Value} {below : List Frame} {meth : Method} {c : Code} {b : Nat} {D : va_G} {dA : Nat → ClassId} {S0 : AS} {q : RS} (C : hp_C p l e R s m args below meth c b D dA S0 RX6 cX6_setWay 7 6 16) (hT : ∀ x ∈ c.exceptionTable.toList, False) (hnm : meth.name = "setWay") (hr : meth.sig.returnType = none) : ∀ (n : Nat), ∀ (a0 : Option Nat) (x1 : Int) (x2 : Int) (x3 : Int) (x4 : Int) (S : AS), inR x1 → inR x2 → inR x3 → inR x4 → f_X6_setWay_10 n a0 x1 x2 x3 x4 S = some q → ∀ ls : Array Slot, hp_L ls 7 [(0, rf b a0), (1, iv x1), (2, iv x2), (3, iv x3), (4, iv x4)] → hp_J p l e R s m args below meth c b D dA S0 (hp_Q below b D dA S0 0 q args s) S 10 ls [] := by
  have hst : l.stackTraces = false := C.2.2.2.2.2.2.2.2.2.2.1
  intro n
  induction n with
  | zero =>
    intro a0 x1 x2 x3 x4 S hx1 hx2 hx3 hx4 h
    cases h
  | succ n ih =>
    intro a0 x1 x2 x3 x4 S hx1 hx2 hx3 hx4 h ls hl
    unfold f_X6_setWay_10 at h
    refine j_aload_n C dX6_setWay_10 rfl (hl.at 0 rfl) ?_
    obtain ⟨o1, g_o1, h⟩ := bd h
    refine j_gR C dX6_setWay_11 fl_RX6_46 rfl g_o1 ?_
    refine j_iload C dX6_setWay_14 (hl.at 4 rfl) ?_
    obtain ⟨v2, g_v2, h⟩ := bd h
    refine j_iald C dX6_setWay_16 hx4 g_v2 (fun hv2 => ?_)
    refine j_iconst C dX6_setWay_17 ?_
    refine j_icmp_eq (tgt := 36) C dX6_setWay_18 (by decide) hv2 (by decide) (fun b1 => ?_) (fun b1 => ?_)
    · rw [if_pos b1] at h
      refine j_bipush (x := 64) C dX6_setWay_36 (by decide) ?_
      refine j_iload_n C dX6_setWay_38 rfl (hl.at 1 rfl) ?_
      obtain ⟨z3, g_z3, h⟩ := bd h
      refine j_imul C dX6_setWay_39 g_z3 (fun hz3 => ?_)
      refine j_iload_n C dX6_setWay_40 rfl (hl.at 2 rfl) ?_
      obtain ⟨z4, g_z4, h⟩ := bd h
      refine j_iadd C dX6_setWay_41 g_z4 (fun hz4 => ?_)
      refine k_istore (lv' := [(4, iv z4), (0, rf b a0), (1, iv x1), (2, iv x2), (3, iv x3)]) C dX6_setWay_42 hl (by decide) rfl (fun ls hl => ?_)
      refine j_aload_n C dX6_setWay_44 rfl (hl.at 1 rfl) ?_
      obtain ⟨o5, g_o5, h⟩ := bd h
      refine j_gR C dX6_setWay_45 fl_RX6_36 rfl g_o5 ?_
      refine j_iload C dX6_setWay_48 (hl.at 0 rfl) ?_
      refine j_iload_n C dX6_setWay_50 rfl (hl.at 4 rfl) ?_
      obtain ⟨S6, g_S6, h⟩ := bd h
      refine j_iast C dX6_setWay_51 hz4 hx3 g_S6 ?_
      refine j_aload_n C dX6_setWay_52 rfl (hl.at 1 rfl) ?_
      obtain ⟨o7, g_o7, h⟩ := bd h
      refine j_gR C dX6_setWay_53 fl_RX6_40 rfl g_o7 ?_
      refine j_bipush (x := 24) C dX6_setWay_56 (by decide) ?_
      refine j_iload C dX6_setWay_58 (hl.at 0 rfl) ?_
      obtain ⟨z8, g_z8, h⟩ := bd h
      refine j_imul C dX6_setWay_60 g_z8 (fun hz8 => ?_)
      refine j_iload_n C dX6_setWay_61 rfl (hl.at 4 rfl) ?_
      obtain ⟨z9, g_z9, h⟩ := bd h
      refine j_iadd C dX6_setWay_62 g_z9 (fun hz9 => ?_)
      refine j_iconst C dX6_setWay_63 ?_
      obtain ⟨z10, g_z10, h⟩ := bd h
      refine j_isub C dX6_setWay_64 g_z10 (fun hz10 => ?_)
      refine j_aload_n C dX6_setWay_65 rfl (hl.at 1 rfl) ?_
      obtain ⟨o11, g_o11, h⟩ := bd h
      refine j_gR C dX6_setWay_66 fl_RX6_58 rfl g_o11 ?_
      refine j_iload_n C dX6_setWay_69 rfl (hl.at 3 rfl) ?_
      obtain ⟨v12, g_v12, h⟩ := bd h
      refine j_iald C dX6_setWay_70 hx2 g_v12 (fun hv12 => ?_)
      obtain ⟨S13, g_S13, h⟩ := bd h
      refine j_iast C dX6_setWay_71 hz10 hv12 g_S13 ?_
      refine j_iload_n C dX6_setWay_72 rfl (hl.at 4 rfl) ?_
      refine j_iconst C dX6_setWay_73 ?_
      obtain ⟨z14, g_z14, h⟩ := bd h
      refine j_isub C dX6_setWay_74 g_z14 (fun hz14 => ?_)
      refine k_istore (lv' := [(5, iv z14), (4, iv z4), (0, rf b a0), (1, iv x1), (2, iv x2), (3, iv x3)]) C dX6_setWay_75 hl (by decide) rfl (fun ls hl => ?_)
      refine j_aload_n C dX6_setWay_77 rfl (hl.at 2 rfl) ?_
      obtain ⟨o15, g_o15, h⟩ := bd h
      refine j_gR C dX6_setWay_78 fl_RX6_55 rfl g_o15 ?_
      refine j_iload_n C dX6_setWay_81 rfl (hl.at 4 rfl) ?_
      obtain ⟨v16, g_v16, h⟩ := bd h
      refine j_iald C dX6_setWay_82 hx2 g_v16 (fun hv16 => ?_)
      refine k_istore (lv' := [(6, iv v16), (5, iv z14), (4, iv z4), (0, rf b a0), (1, iv x1), (2, iv x2), (3, iv x3)]) C dX6_setWay_83 hl (by decide) rfl (fun ls hl => ?_)
      exact w_X6_setWay_85 C hT hnm hr FU _ _ _ _ _ hz4 hz14 hv16 h ls (hl.sub [3, 2, 1, 0] rfl)
    · rw [if_neg b1] at h
      obtain ⟨z17, g_z17, h⟩ := bd h
      refine k_iinc (k9 := 3) (lv' := [(3, iv z17), (0, rf b a0), (1, iv x1), (2, iv x2), (4, iv x4)]) C dX6_setWay_21 hl rfl g_z17 (by decide) rfl (fun hz17 ls hl => ?_)
      refine j_aload_n C dX6_setWay_24 rfl (hl.at 1 rfl) ?_
      obtain ⟨o18, g_o18, h⟩ := bd h
      refine j_gR C dX6_setWay_25 fl_RX6_46 rfl g_o18 ?_
      refine j_iload C dX6_setWay_28 (hl.at 4 rfl) ?_
      obtain ⟨v19, g_v19, h⟩ := bd h
      refine j_iald C dX6_setWay_30 hx4 g_v19 (fun hv19 => ?_)
      refine k_istore (lv' := [(4, iv v19), (3, iv z17), (0, rf b a0), (1, iv x1), (2, iv x2)]) C dX6_setWay_31 hl (by decide) rfl (fun ls hl => ?_)
      refine j_goto (tgt := 10) C dX6_setWay_33 (by decide) ?_
      exact ih _ _ _ _ _ _ hx1 hx2 hz17 hv19 h ls (hl.sub [2, 3, 4, 1, 0] rfl)
noncomputable def f_X6_setWay (a0 : Option Nat) (x1 : Int) (x2 : Int) (S : AS) : Option RS :=
  (gR S a0 7 19).bind fun o1 =>
  (aI S o1 8 x2).bind fun v2 =>
  f_X6_setWay_10 FU a0 x1 x2 1 v2 S
set_option maxHeartbeats 4000000 in
set_option maxRecDepth 100000 in
theorem m_X6_setWay {l : Launch} {b : Nat} {D : va_G} {dA : Nat → ClassId} (hst : l.stackTraces = false) {a0 : Option Nat} {x1 : Int} {x2 : Int} {S : AS} {q : RS} (hx1 : inR x1) (hx2 : inR x2) (h : f_X6_setWay a0 x1 x2 S = some q) : hp_M l b D dA yX6_setWay cX6_setWay 7 none 6 16 [rf b a0, iv x1, iv x2] S 0 q := by
  have hcat : ∀ v ∈ ([rf b a0, iv x1, iv x2] : List Value), v.category = 1 := (by intro v hv; simp only [List.mem_cons, List.not_mem_nil, or_false] at hv; rcases hv with rfl | rfl | rfl <;> first | exact cat_iv _ | exact cat_rf _ _)
  refine hp_ofJ (own := RX6) hst (by decide +kernel) rfl hcat (Nat.le_of_ble_eq_true rfl) ?_
  intro p e R s m args below meth c C hT hnm hr ls hl9
  have hl : hp_L ls 7 [(0, rf b a0), (1, iv x1), (2, iv x2)] := hp_L.of hl9 hcat
  unfold f_X6_setWay at h
  refine j_iconst C dX6_setWay_0 ?_
  refine k_istore_n (lv' := [(3, iv 1), (0, rf b a0), (1, iv x1), (2, iv x2)]) C dX6_setWay_1 rfl hl (by decide) rfl (fun ls hl => ?_)
  refine j_aload_n C dX6_setWay_2 rfl (hl.at 1 rfl) ?_
  obtain ⟨o1, g_o1, h⟩ := bd h
  refine j_gR C dX6_setWay_3 fl_RX6_55 rfl g_o1 ?_
  refine j_iload_n C dX6_setWay_6 rfl (hl.at 3 rfl) ?_
  obtain ⟨v2, g_v2, h⟩ := bd h
  refine j_iald C dX6_setWay_7 hx2 g_v2 (fun hv2 => ?_)
  refine k_istore (lv' := [(4, iv v2), (3, iv 1), (0, rf b a0), (1, iv x1), (2, iv x2)]) C dX6_setWay_8 hl (by decide) rfl (fun ls hl => ?_)
  exact w_X6_setWay_10 C hT hnm hr FU _ _ _ _ _ _ hx1 hx2 (by decide) hv2 h ls (hl.sub [2, 3, 4, 1, 0] rfl)
noncomputable def f_X6_flat_361 (n : Nat) (k292 : Option Nat → Int → Int → AS → Option RS) (a0 : Option Nat) (x5 : Int) (x6 : Int) (x7 : Int) (x8 : Int) (x9 : Int) (S : AS) : Option RS := match n with
  | 0 => none
  | n + 1 =>
    gd (isK S a0 7) <|
    cI (f_X6_ownPins a0 x8 S) fun v2 S1 =>
    if v2 ≤ x9 then
      (chk (x6 + 1)).bind fun z4 =>
      k292 a0 x5 z4 S1
    else
      (gR S1 a0 7 10).bind fun o5 =>
      (gR S1 a0 7 20).bind fun o6 =>
      (aI S1 o6 8 x6).bind fun v7 =>
      cI (f_X6_at x7 v7 x9 S1) fun v9 S8 =>
      (aI S8 o5 8 v9).bind fun v10 =>
      (gR S8 a0 7 10).bind fun o11 =>
      cI (f_X6_at x5 x6 x9 S8) fun v13 S12 =>
      if v10 = (-1) then
        (sI S12 o11 8 v13 (-1)).bind fun S23 =>
        (chk (x9 + 1)).bind fun z24 =>
        f_X6_flat_361 n k292 a0 x5 x6 x7 x8 z24 S23
      else
        (gR S12 a0 7 24).bind fun o14 =>
        (gR S12 a0 7 17).bind fun o15 =>
        (gR S12 a0 7 19).bind fun o16 =>
        (aI S12 o16 8 x6).bind fun v17 =>
        (aI S12 o15 8 v17).bind fun v18 =>
        (chk (v18 + v10)).bind fun z19 =>
        (aI S12 o14 8 z19).bind fun v20 =>
        (sI S12 o11 8 v13 v20).bind fun S21 =>
        (chk (x9 + 1)).bind fun z22 =>
        f_X6_flat_361 n k292 a0 x5 x6 x7 x8 z22 S21
set_option maxHeartbeats 4000000 in
set_option maxRecDepth 100000 in
theorem w_X6_flat_361 {p : Program} {l : Launch} {e : Env} {R : Room} {s : State} {m : MethodId} {args : Array Value} {below : List Frame} {meth : Method} {c : Code} {b : Nat} {D : va_G} {dA : Nat → ClassId} {S0 : AS} {q : RS} (C : hp_C p l e R s m args below meth c b D dA S0 RX6 cX6_flat 11 8 67) (hT : ∀ x ∈ c.exceptionTable.toList, False) (hnm : meth.name = "flat") (hr : meth.sig.returnType = (some .int)) {k292 : Option Nat → Int → Int → AS → Option RS} (hk292 : ∀ (a0 : Option Nat) (x5 : Int) (x6 : Int) (S : AS), inR x5 → inR x6 → k292 a0 x5 x6 S = some q → ∀ ls : Array Slot, hp_L ls 11 [(0, rf b a0), (5, iv x5), (6, iv x6)] → hp_J p l e R s m args below meth c b D dA S0 (hp_Q below b D dA S0 1 q args s) S 292 ls []) : ∀ (n : Nat), ∀ (a0 : Option Nat) (x5 : Int) (x6 : Int) (x7 : Int) (x8 : Int) (x9 : Int) (S : AS), inR x5 → inR x6 → inR x7 → inR x8 → inR x9 → f_X6_flat_361 n k292 a0 x5 x6 x7 x8 x9 S = some q → ∀ ls : Array Slot, hp_L ls 11 [(0, rf b a0), (5, iv x5), (6, iv x6), (7, iv x7), (8, iv x8), (9, iv x9)] → hp_J p l e R s m args below meth c b D dA S0 (hp_Q below b D dA S0 1 q args s) S 361 ls [] := by
  have hst : l.stackTraces = false := C.2.2.2.2.2.2.2.2.2.2.1
  intro n
  induction n with
  | zero =>
    intro a0 x5 x6 x7 x8 x9 S hx5 hx6 hx7 hx8 hx9 h
    cases h
  | succ n ih =>
    intro a0 x5 x6 x7 x8 x9 S hx5 hx6 hx7 hx8 hx9 h ls hl
    unfold f_X6_flat_361 at h
    refine j_iload C dX6_flat_361 (hl.at 5 rfl) ?_
    refine j_aload_n C dX6_flat_363 rfl (hl.at 0 rfl) ?_
    refine j_iload C dX6_flat_364 (hl.at 4 rfl) ?_
    obtain ⟨c3, h⟩ := gd_some h
    rcases cI_some h with ⟨S1, v2, wv2, hc, h⟩ | ⟨hc, hne⟩
    · refine j_callI C (run_W (As := [iv x8]) (rest := [iv x9]) C (m_X6_ownPins hst hx8 hc) cv_RX6_117 (by decide) rfl c3 rfl hl (by simp [cat_iv, cat_rf]) (by decide) (by decide) dX6_flat_366) (fun hv2 => ?_)
      refine j_icmp_ge (tgt := 443) C dX6_flat_369 (by decide) hx9 hv2 (fun b1 => ?_) (fun b1 => ?_)
      · rw [if_pos b1] at h
        obtain ⟨z4, g_z4, h⟩ := bd h
        refine k_iinc (k9 := 2) (lv' := [(6, iv z4), (0, rf b a0), (5, iv x5), (7, iv x7), (8, iv x8), (9, iv x9)]) C dX6_flat_443 hl rfl g_z4 (by decide) rfl (fun hz4 ls hl => ?_)
        refine j_goto (tgt := 292) C dX6_flat_446 (by decide) ?_
        exact hk292 _ _ _ _ hx5 hz4 h ls (hl.sub [1, 2, 0] rfl)
      · rw [if_neg b1] at h
        refine j_aload_n C dX6_flat_372 rfl (hl.at 0 rfl) ?_
        obtain ⟨o5, g_o5, h⟩ := bd h
        refine j_gR C dX6_flat_373 fl_RX6_33 rfl g_o5 ?_
        refine j_iload C dX6_flat_376 (hl.at 3 rfl) ?_
        refine j_aload_n C dX6_flat_378 rfl (hl.at 0 rfl) ?_
        obtain ⟨o6, g_o6, h⟩ := bd h
        refine j_gR C dX6_flat_379 fl_RX6_58 rfl g_o6 ?_
        refine j_iload C dX6_flat_382 (hl.at 2 rfl) ?_
        obtain ⟨v7, g_v7, h⟩ := bd h
        refine j_iald C dX6_flat_384 hx6 g_v7 (fun hv7 => ?_)
        refine j_iload C dX6_flat_385 (hl.at 5 rfl) ?_
        rcases cI_some h with ⟨S8, v9, wv9, hc, h⟩ | ⟨hc, hne⟩
        · refine j_callI C (run_S (As := [iv x7, iv v7, iv x9]) (rest := [rf b o5]) C (m_X6_at hst hx7 hv7 hx9 hc) cs_RX6_125 rfl hl.1.1 (by simp [cat_iv, cat_rf]) (by decide) (by decide) dX6_flat_387) (fun hv9 => ?_)
          obtain ⟨v10, g_v10, h⟩ := bd h
          refine j_iald C dX6_flat_390 hv9 g_v10 (fun hv10 => ?_)
          refine k_istore (lv' := [(10, iv v10), (0, rf b a0), (5, iv x5), (6, iv x6), (7, iv x7), (8, iv x8), (9, iv x9)]) C dX6_flat_391 hl (by decide) rfl (fun ls hl => ?_)
          refine j_aload_n C dX6_flat_393 rfl (hl.at 1 rfl) ?_
          obtain ⟨o11, g_o11, h⟩ := bd h
          refine j_gR C dX6_flat_394 fl_RX6_33 rfl g_o11 ?_
          refine j_iload C dX6_flat_397 (hl.at 2 rfl) ?_
          refine j_iload C dX6_flat_399 (hl.at 3 rfl) ?_
          refine j_iload C dX6_flat_401 (hl.at 6 rfl) ?_
          rcases cI_some h with ⟨S12, v13, wv13, hc, h⟩ | ⟨hc, hne⟩
          · refine j_callI C (run_S (As := [iv x5, iv x6, iv x9]) (rest := [rf b o11]) C (m_X6_at hst hx5 hx6 hx9 hc) cs_RX6_125 rfl hl.1.1 (by simp [cat_iv, cat_rf]) (by decide) (by decide) dX6_flat_403) (fun hv13 => ?_)
            refine j_iload C dX6_flat_406 (hl.at 0 rfl) ?_
            refine j_iconst C dX6_flat_408 ?_
            refine j_icmp_ne (tgt := 416) C dX6_flat_409 (by decide) hv10 (by decide) (fun b1 => ?_) (fun b1 => ?_)
            · rw [if_neg b1] at h
              refine j_aload_n C dX6_flat_416 rfl (hl.at 1 rfl) ?_
              obtain ⟨o14, g_o14, h⟩ := bd h
              refine j_gR C dX6_flat_417 fl_RX6_70 rfl g_o14 ?_
              refine j_aload_n C dX6_flat_420 rfl (hl.at 1 rfl) ?_
              obtain ⟨o15, g_o15, h⟩ := bd h
              refine j_gR C dX6_flat_421 fl_RX6_52 rfl g_o15 ?_
              refine j_aload_n C dX6_flat_424 rfl (hl.at 1 rfl) ?_
              obtain ⟨o16, g_o16, h⟩ := bd h
              refine j_gR C dX6_flat_425 fl_RX6_55 rfl g_o16 ?_
              refine j_iload C dX6_flat_428 (hl.at 3 rfl) ?_
              obtain ⟨v17, g_v17, h⟩ := bd h
              refine j_iald C dX6_flat_430 hx6 g_v17 (fun hv17 => ?_)
              obtain ⟨v18, g_v18, h⟩ := bd h
              refine j_iald C dX6_flat_431 hv17 g_v18 (fun hv18 => ?_)
              refine j_iload C dX6_flat_432 (hl.at 0 rfl) ?_
              obtain ⟨z19, g_z19, h⟩ := bd h
              refine j_iadd C dX6_flat_434 g_z19 (fun hz19 => ?_)
              obtain ⟨v20, g_v20, h⟩ := bd h
              refine j_iald C dX6_flat_435 hz19 g_v20 (fun hv20 => ?_)
              obtain ⟨S21, g_S21, h⟩ := bd h
              refine j_iast C dX6_flat_436 hv13 hv20 g_S21 ?_
              obtain ⟨z22, g_z22, h⟩ := bd h
              refine k_iinc (k9 := 6) (lv' := [(9, iv z22), (10, iv v10), (0, rf b a0), (5, iv x5), (6, iv x6), (7, iv x7), (8, iv x8)]) C dX6_flat_437 hl rfl g_z22 (by decide) rfl (fun hz22 ls hl => ?_)
              refine j_goto (tgt := 361) C dX6_flat_440 (by decide) ?_
              exact ih _ _ _ _ _ _ _ hx5 hx6 hx7 hx8 hz22 h ls (hl.sub [2, 3, 4, 5, 6, 0] rfl)
            · rw [if_pos (Decidable.byContradiction b1)] at h
              refine j_iconst C dX6_flat_412 ?_
              refine j_goto (tgt := 436) C dX6_flat_413 (by decide) ?_
              obtain ⟨S23, g_S23, h⟩ := bd h
              refine j_iast C dX6_flat_436 hv13 (by decide) g_S23 ?_
              obtain ⟨z24, g_z24, h⟩ := bd h
              refine k_iinc (k9 := 6) (lv' := [(9, iv z24), (10, iv v10), (0, rf b a0), (5, iv x5), (6, iv x6), (7, iv x7), (8, iv x8)]) C dX6_flat_437 hl rfl g_z24 (by decide) rfl (fun hz24 ls hl => ?_)
              refine j_goto (tgt := 361) C dX6_flat_440 (by decide) ?_
              exact ih _ _ _ _ _ _ _ hx5 hx6 hx7 hx8 hz24 h ls (hl.sub [2, 3, 4, 5, 6, 0] rfl)
          · exact j_thrown C hT (run_S (As := [iv x5, iv x6, iv x9]) (rest := [rf b o11]) C (m_X6_at hst hx5 hx6 hx9 hc) cs_RX6_125 rfl hl.1.1 (by simp [cat_iv, cat_rf]) (by decide) (by decide) dX6_flat_403) hne
        · exact j_thrown C hT (run_S (As := [iv x7, iv v7, iv x9]) (rest := [rf b o5]) C (m_X6_at hst hx7 hv7 hx9 hc) cs_RX6_125 rfl hl.1.1 (by simp [cat_iv, cat_rf]) (by decide) (by decide) dX6_flat_387) hne
    · exact j_thrown C hT (run_W (As := [iv x8]) (rest := [iv x9]) C (m_X6_ownPins hst hx8 hc) cv_RX6_117 (by decide) rfl c3 rfl hl (by simp [cat_iv, cat_rf]) (by decide) (by decide) dX6_flat_366) hne
noncomputable def f_X6_flat_292 (n : Nat) (a0 : Option Nat) (x5 : Int) (x6 : Int) (S : AS) : Option RS := match n with
  | 0 => none
  | n + 1 =>
    (gI S a0 7 18).bind fun v1 =>
    if v1 ≤ x6 then
      rI x5 S
    else
      (gR S a0 7 14).bind fun o2 =>
      (gR S a0 7 19).bind fun o3 =>
      (aI S o3 8 x6).bind fun v4 =>
      (aI S o2 8 v4).bind fun v5 =>
      (gR S a0 7 6).bind fun o6 =>
      (chk (64 * v5)).bind fun z7 =>
      (gR S a0 7 20).bind fun o8 =>
      (aI S o8 8 x6).bind fun v9 =>
      (chk (z7 + v9)).bind fun z10 =>
      (aI S o6 8 z10).bind fun v11 =>
      (gR S a0 7 6).bind fun o12 =>
      (chk (64 * x5)).bind fun z13 =>
      (chk (z13 + x6)).bind fun z14 =>
      (sI S o12 8 z14 v11).bind fun S15 =>
      gd (isK S15 a0 7) <|
      cV (f_X6_setWay a0 x5 x6 S15) fun S16 =>
      f_X6_flat_361 FU (f_X6_flat_292 n) a0 x5 x6 v5 v11 0 S16
set_option maxHeartbeats 4000000 in
set_option maxRecDepth 100000 in
theorem w_X6_flat_292 {p : Program} {l : Launch} {e : Env} {R : Room} {s : State} {m : MethodId} {args : Array Value} {below : List Frame} {meth : Method} {c : Code} {b : Nat} {D : va_G} {dA : Nat → ClassId} {S0 : AS} {q : RS} (C : hp_C p l e R s m args below meth c b D dA S0 RX6 cX6_flat 11 8 67) (hT : ∀ x ∈ c.exceptionTable.toList, False) (hnm : meth.name = "flat") (hr : meth.sig.returnType = (some .int)) : ∀ (n : Nat), ∀ (a0 : Option Nat) (x5 : Int) (x6 : Int) (S : AS), inR x5 → inR x6 → f_X6_flat_292 n a0 x5 x6 S = some q → ∀ ls : Array Slot, hp_L ls 11 [(0, rf b a0), (5, iv x5), (6, iv x6)] → hp_J p l e R s m args below meth c b D dA S0 (hp_Q below b D dA S0 1 q args s) S 292 ls [] := by
  have hst : l.stackTraces = false := C.2.2.2.2.2.2.2.2.2.2.1
  intro n
  induction n with
  | zero =>
    intro a0 x5 x6 S hx5 hx6 h
    cases h
  | succ n ih =>
    intro a0 x5 x6 S hx5 hx6 h ls hl
    unfold f_X6_flat_292 at h
    refine j_iload C dX6_flat_292 (hl.at 2 rfl) ?_
    refine j_aload_n C dX6_flat_294 rfl (hl.at 0 rfl) ?_
    obtain ⟨v1, g_v1, h⟩ := bd h
    refine j_gI C dX6_flat_295 fl_RX6_142 (Or.inl rfl) g_v1 (fun hv1 => ?_)
    refine j_icmp_ge (tgt := 449) C dX6_flat_298 (by decide) hx6 hv1 (fun b1 => ?_) (fun b1 => ?_)
    · rw [if_pos b1] at h
      refine j_iload C dX6_flat_449 (hl.at 1 rfl) ?_
      exact j_iret C dX6_flat_451 hr hx5 h
    · rw [if_neg b1] at h
      refine j_aload_n C dX6_flat_301 rfl (hl.at 0 rfl) ?_
      obtain ⟨o2, g_o2, h⟩ := bd h
      refine j_gR C dX6_flat_302 fl_RX6_43 rfl g_o2 ?_
      refine j_aload_n C dX6_flat_305 rfl (hl.at 0 rfl) ?_
      obtain ⟨o3, g_o3, h⟩ := bd h
      refine j_gR C dX6_flat_306 fl_RX6_55 rfl g_o3 ?_
      refine j_iload C dX6_flat_309 (hl.at 2 rfl) ?_
      obtain ⟨v4, g_v4, h⟩ := bd h
      refine j_iald C dX6_flat_311 hx6 g_v4 (fun hv4 => ?_)
      obtain ⟨v5, g_v5, h⟩ := bd h
      refine j_iald C dX6_flat_312 hv4 g_v5 (fun hv5 => ?_)
      refine k_istore (lv' := [(7, iv v5), (0, rf b a0), (5, iv x5), (6, iv x6)]) C dX6_flat_313 hl (by decide) rfl (fun ls hl => ?_)
      refine j_aload_n C dX6_flat_315 rfl (hl.at 1 rfl) ?_
      obtain ⟨o6, g_o6, h⟩ := bd h
      refine j_gR C dX6_flat_316 fl_RX6_23 rfl g_o6 ?_
      refine j_bipush (x := 64) C dX6_flat_319 (by decide) ?_
      refine j_iload C dX6_flat_321 (hl.at 0 rfl) ?_
      obtain ⟨z7, g_z7, h⟩ := bd h
      refine j_imul C dX6_flat_323 g_z7 (fun hz7 => ?_)
      refine j_aload_n C dX6_flat_324 rfl (hl.at 1 rfl) ?_
      obtain ⟨o8, g_o8, h⟩ := bd h
      refine j_gR C dX6_flat_325 fl_RX6_58 rfl g_o8 ?_
      refine j_iload C dX6_flat_328 (hl.at 3 rfl) ?_
      obtain ⟨v9, g_v9, h⟩ := bd h
      refine j_iald C dX6_flat_330 hx6 g_v9 (fun hv9 => ?_)
      obtain ⟨z10, g_z10, h⟩ := bd h
      refine j_iadd C dX6_flat_331 g_z10 (fun hz10 => ?_)
      obtain ⟨v11, g_v11, h⟩ := bd h
      refine j_iald C dX6_flat_332 hz10 g_v11 (fun hv11 => ?_)
      refine k_istore (lv' := [(8, iv v11), (7, iv v5), (0, rf b a0), (5, iv x5), (6, iv x6)]) C dX6_flat_333 hl (by decide) rfl (fun ls hl => ?_)
      refine j_aload_n C dX6_flat_335 rfl (hl.at 2 rfl) ?_
      obtain ⟨o12, g_o12, h⟩ := bd h
      refine j_gR C dX6_flat_336 fl_RX6_23 rfl g_o12 ?_
      refine j_bipush (x := 64) C dX6_flat_339 (by decide) ?_
      refine j_iload C dX6_flat_341 (hl.at 3 rfl) ?_
      obtain ⟨z13, g_z13, h⟩ := bd h
      refine j_imul C dX6_flat_343 g_z13 (fun hz13 => ?_)
      refine j_iload C dX6_flat_344 (hl.at 4 rfl) ?_
      obtain ⟨z14, g_z14, h⟩ := bd h
      refine j_iadd C dX6_flat_346 g_z14 (fun hz14 => ?_)
      refine j_iload C dX6_flat_347 (hl.at 0 rfl) ?_
      obtain ⟨S15, g_S15, h⟩ := bd h
      refine j_iast C dX6_flat_349 hz14 hv11 g_S15 ?_
      refine j_aload_n C dX6_flat_350 rfl (hl.at 2 rfl) ?_
      refine j_iload C dX6_flat_351 (hl.at 3 rfl) ?_
      refine j_iload C dX6_flat_353 (hl.at 4 rfl) ?_
      obtain ⟨c18, h⟩ := gd_some h
      rcases cV_some h with ⟨S16, y17, hc, h⟩ | ⟨hc, hne⟩
      · refine j_callV C (run_W (As := [iv x5, iv x6]) (rest := []) C (m_X6_setWay hst hx5 hx6 hc) cv_RX6_163 (by decide) rfl c18 rfl hl (by decide) (by decide) (by decide) dX6_flat_355) ?_
        refine j_iconst C dX6_flat_358 ?_
        refine k_istore (lv' := [(9, iv 0), (8, iv v11), (7, iv v5), (0, rf b a0), (5, iv x5), (6, iv x6)]) C dX6_flat_359 hl (by decide) rfl (fun ls hl => ?_)
        exact w_X6_flat_361 C hT hnm hr ih FU _ _ _ _ _ _ _ hx5 hx6 hv5 hv11 (by decide) h ls (hl.sub [3, 4, 5, 2, 1, 0] rfl)
      · exact j_thrown C hT (run_W (As := [iv x5, iv x6]) (rest := []) C (m_X6_setWay hst hx5 hx6 hc) cv_RX6_163 (by decide) rfl c18 rfl hl (by decide) (by decide) (by decide) dX6_flat_355) hne
noncomputable def f_X6_flat_228 (n : Nat) (a0 : Option Nat) (x1 : Int) (x5 : Int) (x6 : Int) (S : AS) : Option RS := match n with
  | 0 => none
  | n + 1 =>
    gd (isK S a0 7) <|
    cI (f_X6_ownPins a0 x5 S) fun v2 S1 =>
    if v2 ≤ x6 then
      f_X6_flat_292 FU a0 x5 0 S1
    else
      (gR S1 a0 7 10).bind fun o4 =>
      cI (f_X6_at x1 (-1) x6 S1) fun v6 S5 =>
      (aI S5 o4 8 v6).bind fun v7 =>
      (gR S5 a0 7 10).bind fun o8 =>
      cI (f_X6_at x5 (-1) x6 S5) fun v10 S9 =>
      if v7 = (-1) then
        (sI S9 o8 8 v10 (-1)).bind fun S15 =>
        (chk (x6 + 1)).bind fun z16 =>
        f_X6_flat_228 n a0 x1 x5 z16 S15
      else
        (gR S9 a0 7 24).bind fun o11 =>
        (aI S9 o11 8 v7).bind fun v12 =>
        (sI S9 o8 8 v10 v12).bind fun S13 =>
        (chk (x6 + 1)).bind fun z14 =>
        f_X6_flat_228 n a0 x1 x5 z14 S13
set_option maxHeartbeats 4000000 in
set_option maxRecDepth 100000 in
theorem w_X6_flat_228 {p : Program} {l : Launch} {e : Env} {R : Room} {s : State} {m : MethodId} {args : Array Value} {below : List Frame} {meth : Method} {c : Code} {b : Nat} {D : va_G} {dA : Nat → ClassId} {S0 : AS} {q : RS} (C : hp_C p l e R s m args below meth c b D dA S0 RX6 cX6_flat 11 8 67) (hT : ∀ x ∈ c.exceptionTable.toList, False) (hnm : meth.name = "flat") (hr : meth.sig.returnType = (some .int)) : ∀ (n : Nat), ∀ (a0 : Option Nat) (x1 : Int) (x5 : Int) (x6 : Int) (S : AS), inR x1 → inR x5 → inR x6 → f_X6_flat_228 n a0 x1 x5 x6 S = some q → ∀ ls : Array Slot, hp_L ls 11 [(0, rf b a0), (1, iv x1), (5, iv x5), (6, iv x6)] → hp_J p l e R s m args below meth c b D dA S0 (hp_Q below b D dA S0 1 q args s) S 228 ls [] := by
  have hst : l.stackTraces = false := C.2.2.2.2.2.2.2.2.2.2.1
  intro n
  induction n with
  | zero =>
    intro a0 x1 x5 x6 S hx1 hx5 hx6 h
    cases h
  | succ n ih =>
    intro a0 x1 x5 x6 S hx1 hx5 hx6 h ls hl
    unfold f_X6_flat_228 at h
    refine j_iload C dX6_flat_228 (hl.at 3 rfl) ?_
    refine j_aload_n C dX6_flat_230 rfl (hl.at 0 rfl) ?_
    refine j_iload C dX6_flat_231 (hl.at 2 rfl) ?_
    obtain ⟨c3, h⟩ := gd_some h
    rcases cI_some h with ⟨S1, v2, wv2, hc, h⟩ | ⟨hc, hne⟩
    · refine j_callI C (run_W (As := [iv x5]) (rest := [iv x6]) C (m_X6_ownPins hst hx5 hc) cv_RX6_117 (by decide) rfl c3 rfl hl (by simp [cat_iv, cat_rf]) (by decide) (by decide) dX6_flat_233) (fun hv2 => ?_)
      refine j_icmp_ge (tgt := 289) C dX6_flat_236 (by decide) hx6 hv2 (fun b1 => ?_) (fun b1 => ?_)
      · rw [if_pos b1] at h
        refine j_iconst C dX6_flat_289 ?_
        refine k_istore (lv' := [(6, iv 0), (0, rf b a0), (1, iv x1), (5, iv x5)]) C dX6_flat_290 hl (by decide) rfl (fun ls hl => ?_)
        exact w_X6_flat_292 C hT hnm hr FU _ _ _ _ hx5 (by decide) h ls (hl.sub [1, 3, 0] rfl)
      · rw [if_neg b1] at h
        refine j_aload_n C dX6_flat_239 rfl (hl.at 0 rfl) ?_
        obtain ⟨o4, g_o4, h⟩ := bd h
        refine j_gR C dX6_flat_240 fl_RX6_33 rfl g_o4 ?_
        refine j_iload_n C dX6_flat_243 rfl (hl.at 1 rfl) ?_
        refine j_iconst C dX6_flat_244 ?_
        refine j_iload C dX6_flat_245 (hl.at 3 rfl) ?_
        rcases cI_some h with ⟨S5, v6, wv6, hc, h⟩ | ⟨hc, hne⟩
        · refine j_callI C (run_S (As := [iv x1, iv (-1), iv x6]) (rest := [rf b o4]) C (m_X6_at hst hx1 (by decide) hx6 hc) cs_RX6_125 rfl hl.1.1 (by simp [cat_iv, cat_rf]) (by decide) (by decide) dX6_flat_247) (fun hv6 => ?_)
          obtain ⟨v7, g_v7, h⟩ := bd h
          refine j_iald C dX6_flat_250 hv6 g_v7 (fun hv7 => ?_)
          refine k_istore (lv' := [(7, iv v7), (0, rf b a0), (1, iv x1), (5, iv x5), (6, iv x6)]) C dX6_flat_251 hl (by decide) rfl (fun ls hl => ?_)
          refine j_aload_n C dX6_flat_253 rfl (hl.at 1 rfl) ?_
          obtain ⟨o8, g_o8, h⟩ := bd h
          refine j_gR C dX6_flat_254 fl_RX6_33 rfl g_o8 ?_
          refine j_iload C dX6_flat_257 (hl.at 3 rfl) ?_
          refine j_iconst C dX6_flat_259 ?_
          refine j_iload C dX6_flat_260 (hl.at 4 rfl) ?_
          rcases cI_some h with ⟨S9, v10, wv10, hc, h⟩ | ⟨hc, hne⟩
          · refine j_callI C (run_S (As := [iv x5, iv (-1), iv x6]) (rest := [rf b o8]) C (m_X6_at hst hx5 (by decide) hx6 hc) cs_RX6_125 rfl hl.1.1 (by simp [cat_iv, cat_rf]) (by decide) (by decide) dX6_flat_262) (fun hv10 => ?_)
            refine j_iload C dX6_flat_265 (hl.at 0 rfl) ?_
            refine j_iconst C dX6_flat_267 ?_
            refine j_icmp_ne (tgt := 275) C dX6_flat_268 (by decide) hv7 (by decide) (fun b1 => ?_) (fun b1 => ?_)
            · rw [if_neg b1] at h
              refine j_aload_n C dX6_flat_275 rfl (hl.at 1 rfl) ?_
              obtain ⟨o11, g_o11, h⟩ := bd h
              refine j_gR C dX6_flat_276 fl_RX6_70 rfl g_o11 ?_
              refine j_iload C dX6_flat_279 (hl.at 0 rfl) ?_
              obtain ⟨v12, g_v12, h⟩ := bd h
              refine j_iald C dX6_flat_281 hv7 g_v12 (fun hv12 => ?_)
              obtain ⟨S13, g_S13, h⟩ := bd h
              refine j_iast C dX6_flat_282 hv10 hv12 g_S13 ?_
              obtain ⟨z14, g_z14, h⟩ := bd h
              refine k_iinc (k9 := 4) (lv' := [(6, iv z14), (7, iv v7), (0, rf b a0), (1, iv x1), (5, iv x5)]) C dX6_flat_283 hl rfl g_z14 (by decide) rfl (fun hz14 ls hl => ?_)
              refine j_goto (tgt := 228) C dX6_flat_286 (by decide) ?_
              exact ih _ _ _ _ _ hx1 hx5 hz14 h ls (hl.sub [2, 3, 4, 0] rfl)
            · rw [if_pos (Decidable.byContradiction b1)] at h
              refine j_iconst C dX6_flat_271 ?_
              refine j_goto (tgt := 282) C dX6_flat_272 (by decide) ?_
              obtain ⟨S15, g_S15, h⟩ := bd h
              refine j_iast C dX6_flat_282 hv10 (by decide) g_S15 ?_
              obtain ⟨z16, g_z16, h⟩ := bd h
              refine k_iinc (k9 := 4) (lv' := [(6, iv z16), (7, iv v7), (0, rf b a0), (1, iv x1), (5, iv x5)]) C dX6_flat_283 hl rfl g_z16 (by decide) rfl (fun hz16 ls hl => ?_)
              refine j_goto (tgt := 228) C dX6_flat_286 (by decide) ?_
              exact ih _ _ _ _ _ hx1 hx5 hz16 h ls (hl.sub [2, 3, 4, 0] rfl)
          · exact j_thrown C hT (run_S (As := [iv x5, iv (-1), iv x6]) (rest := [rf b o8]) C (m_X6_at hst hx5 (by decide) hx6 hc) cs_RX6_125 rfl hl.1.1 (by simp [cat_iv, cat_rf]) (by decide) (by decide) dX6_flat_262) hne
        · exact j_thrown C hT (run_S (As := [iv x1, iv (-1), iv x6]) (rest := [rf b o4]) C (m_X6_at hst hx1 (by decide) hx6 hc) cs_RX6_125 rfl hl.1.1 (by simp [cat_iv, cat_rf]) (by decide) (by decide) dX6_flat_247) hne
    · exact j_thrown C hT (run_W (As := [iv x5]) (rest := [iv x6]) C (m_X6_ownPins hst hx5 hc) cv_RX6_117 (by decide) rfl c3 rfl hl (by simp [cat_iv, cat_rf]) (by decide) (by decide) dX6_flat_233) hne
noncomputable def f_X6_flat_143 (n : Nat) (a0 : Option Nat) (x1 : Int) (x3 : Int) (x5 : Int) (x6 : Int) (S : AS) : Option RS := match n with
  | 0 => none
  | n + 1 =>
    if 16 ≤ x6 then
      (gR S a0 7 7).bind fun o1 =>
      (sI S o1 8 x5 x3).bind fun S2 =>
      (gR S2 a0 7 5).bind fun o3 =>
      (gI S2 a0 7 18).bind fun v4 =>
      (sI S2 o3 8 x5 v4).bind fun S5 =>
      f_X6_flat_228 FU a0 x1 x5 0 S5
    else
      (gR S a0 7 3).bind fun o6 =>
      (chk (16 * x5)).bind fun z7 =>
      (chk (z7 + x6)).bind fun z8 =>
      (gR S a0 7 3).bind fun o9 =>
      (chk (16 * x1)).bind fun z10 =>
      (chk (z10 + x6)).bind fun z11 =>
      (aI S o9 8 z11).bind fun v12 =>
      (sI S o6 8 z8 v12).bind fun S13 =>
      (gR S13 a0 7 4).bind fun o14 =>
      (chk (16 * x5)).bind fun z15 =>
      (chk (z15 + x6)).bind fun z16 =>
      (gR S13 a0 7 4).bind fun o17 =>
      (chk (16 * x1)).bind fun z18 =>
      (chk (z18 + x6)).bind fun z19 =>
      (aI S13 o17 9 z19).bind fun v20 =>
      (sZ S13 o14 z16 v20).bind fun S21 =>
      (chk (x6 + 1)).bind fun z22 =>
      f_X6_flat_143 n a0 x1 x3 x5 z22 S21
set_option maxHeartbeats 4000000 in
set_option maxRecDepth 100000 in
theorem w_X6_flat_143 {p : Program} {l : Launch} {e : Env} {R : Room} {s : State} {m : MethodId} {args : Array Value} {below : List Frame} {meth : Method} {c : Code} {b : Nat} {D : va_G} {dA : Nat → ClassId} {S0 : AS} {q : RS} (C : hp_C p l e R s m args below meth c b D dA S0 RX6 cX6_flat 11 8 67) (hT : ∀ x ∈ c.exceptionTable.toList, False) (hnm : meth.name = "flat") (hr : meth.sig.returnType = (some .int)) : ∀ (n : Nat), ∀ (a0 : Option Nat) (x1 : Int) (x3 : Int) (x5 : Int) (x6 : Int) (S : AS), inR x1 → inR x3 → inR x5 → inR x6 → f_X6_flat_143 n a0 x1 x3 x5 x6 S = some q → ∀ ls : Array Slot, hp_L ls 11 [(0, rf b a0), (1, iv x1), (3, iv x3), (5, iv x5), (6, iv x6)] → hp_J p l e R s m args below meth c b D dA S0 (hp_Q below b D dA S0 1 q args s) S 143 ls [] := by
  have hst : l.stackTraces = false := C.2.2.2.2.2.2.2.2.2.2.1
  intro n
  induction n with
  | zero =>
    intro a0 x1 x3 x5 x6 S hx1 hx3 hx5 hx6 h
    cases h
  | succ n ih =>
    intro a0 x1 x3 x5 x6 S hx1 hx3 hx5 hx6 h ls hl
    unfold f_X6_flat_143 at h
    refine j_iload C dX6_flat_143 (hl.at 4 rfl) ?_
    refine j_bipush (x := 16) C dX6_flat_145 (by decide) ?_
    refine j_icmp_ge (tgt := 206) C dX6_flat_147 (by decide) hx6 (by decide) (fun b1 => ?_) (fun b1 => ?_)
    · rw [if_pos b1] at h
      refine j_aload_n C dX6_flat_206 rfl (hl.at 0 rfl) ?_
      obtain ⟨o1, g_o1, h⟩ := bd h
      refine j_gR C dX6_flat_207 fl_RX6_26 rfl g_o1 ?_
      refine j_iload C dX6_flat_210 (hl.at 3 rfl) ?_
      refine j_iload_n C dX6_flat_212 rfl (hl.at 2 rfl) ?_
      obtain ⟨S2, g_S2, h⟩ := bd h
      refine j_iast C dX6_flat_213 hx5 hx3 g_S2 ?_
      refine j_aload_n C dX6_flat_214 rfl (hl.at 0 rfl) ?_
      obtain ⟨o3, g_o3, h⟩ := bd h
      refine j_gR C dX6_flat_215 fl_RX6_20 rfl g_o3 ?_
      refine j_iload C dX6_flat_218 (hl.at 3 rfl) ?_
      refine j_aload_n C dX6_flat_220 rfl (hl.at 0 rfl) ?_
      obtain ⟨v4, g_v4, h⟩ := bd h
      refine j_gI C dX6_flat_221 fl_RX6_142 (Or.inl rfl) g_v4 (fun hv4 => ?_)
      obtain ⟨S5, g_S5, h⟩ := bd h
      refine j_iast C dX6_flat_224 hx5 hv4 g_S5 ?_
      refine j_iconst C dX6_flat_225 ?_
      refine k_istore (lv' := [(6, iv 0), (0, rf b a0), (1, iv x1), (3, iv x3), (5, iv x5)]) C dX6_flat_226 hl (by decide) rfl (fun ls hl => ?_)
      exact w_X6_flat_228 C hT hnm hr FU _ _ _ _ _ hx1 hx5 (by decide) h ls (hl.sub [1, 2, 4, 0] rfl)
    · rw [if_neg b1] at h
      refine j_aload_n C dX6_flat_150 rfl (hl.at 0 rfl) ?_
      obtain ⟨o6, g_o6, h⟩ := bd h
      refine j_gR C dX6_flat_151 fl_RX6_13 rfl g_o6 ?_
      refine j_bipush (x := 16) C dX6_flat_154 (by decide) ?_
      refine j_iload C dX6_flat_156 (hl.at 3 rfl) ?_
      obtain ⟨z7, g_z7, h⟩ := bd h
      refine j_imul C dX6_flat_158 g_z7 (fun hz7 => ?_)
      refine j_iload C dX6_flat_159 (hl.at 4 rfl) ?_
      obtain ⟨z8, g_z8, h⟩ := bd h
      refine j_iadd C dX6_flat_161 g_z8 (fun hz8 => ?_)
      refine j_aload_n C dX6_flat_162 rfl (hl.at 0 rfl) ?_
      obtain ⟨o9, g_o9, h⟩ := bd h
      refine j_gR C dX6_flat_163 fl_RX6_13 rfl g_o9 ?_
      refine j_bipush (x := 16) C dX6_flat_166 (by decide) ?_
      refine j_iload_n C dX6_flat_168 rfl (hl.at 1 rfl) ?_
      obtain ⟨z10, g_z10, h⟩ := bd h
      refine j_imul C dX6_flat_169 g_z10 (fun hz10 => ?_)
      refine j_iload C dX6_flat_170 (hl.at 4 rfl) ?_
      obtain ⟨z11, g_z11, h⟩ := bd h
      refine j_iadd C dX6_flat_172 g_z11 (fun hz11 => ?_)
      obtain ⟨v12, g_v12, h⟩ := bd h
      refine j_iald C dX6_flat_173 hz11 g_v12 (fun hv12 => ?_)
      obtain ⟨S13, g_S13, h⟩ := bd h
      refine j_iast C dX6_flat_174 hz8 hv12 g_S13 ?_
      refine j_aload_n C dX6_flat_175 rfl (hl.at 0 rfl) ?_
      obtain ⟨o14, g_o14, h⟩ := bd h
      refine j_gR C dX6_flat_176 fl_RX6_16 rfl g_o14 ?_
      refine j_bipush (x := 16) C dX6_flat_179 (by decide) ?_
      refine j_iload C dX6_flat_181 (hl.at 3 rfl) ?_
      obtain ⟨z15, g_z15, h⟩ := bd h
      refine j_imul C dX6_flat_183 g_z15 (fun hz15 => ?_)
      refine j_iload C dX6_flat_184 (hl.at 4 rfl) ?_
      obtain ⟨z16, g_z16, h⟩ := bd h
      refine j_iadd C dX6_flat_186 g_z16 (fun hz16 => ?_)
      refine j_aload_n C dX6_flat_187 rfl (hl.at 0 rfl) ?_
      obtain ⟨o17, g_o17, h⟩ := bd h
      refine j_gR C dX6_flat_188 fl_RX6_16 rfl g_o17 ?_
      refine j_bipush (x := 16) C dX6_flat_191 (by decide) ?_
      refine j_iload_n C dX6_flat_193 rfl (hl.at 1 rfl) ?_
      obtain ⟨z18, g_z18, h⟩ := bd h
      refine j_imul C dX6_flat_194 g_z18 (fun hz18 => ?_)
      refine j_iload C dX6_flat_195 (hl.at 4 rfl) ?_
      obtain ⟨z19, g_z19, h⟩ := bd h
      refine j_iadd C dX6_flat_197 g_z19 (fun hz19 => ?_)
      obtain ⟨v20, g_v20, h⟩ := bd h
      refine j_zald C dX6_flat_198 hz19 g_v20 (fun hv20 => ?_)
      obtain ⟨S21, g_S21, h⟩ := bd h
      refine j_zast C dX6_flat_199 hz16 g_S21 ?_
      obtain ⟨z22, g_z22, h⟩ := bd h
      refine k_iinc (k9 := 4) (lv' := [(6, iv z22), (0, rf b a0), (1, iv x1), (3, iv x3), (5, iv x5)]) C dX6_flat_200 hl rfl g_z22 (by decide) rfl (fun hz22 ls hl => ?_)
      refine j_goto (tgt := 143) C dX6_flat_203 (by decide) ?_
      exact ih _ _ _ _ _ _ hx1 hx3 hx5 hz22 h ls (hl.sub [1, 2, 3, 4, 0] rfl)
noncomputable def f_X6_flat_93 (a0 : Option Nat) (x1 : Int) (x3 : Int) (t0 : Int) (u1 : Option Nat) (S : AS) : Option RS :=
  (pI S u1 7 0 t0).bind fun S1 =>
  (gI S1 a0 7 0).bind fun v2 =>
  if v2 ≤ 0 then
    (gI S1 a0 7 1).bind fun v3 =>
    gd (isK S1 a0 7) <|
    cV (f_X6_begin a0 v3 S1) fun S4 =>
    (gI S4 a0 7 1).bind fun v7 =>
    (chk (v7 + 1)).bind fun z8 =>
    (pI S4 a0 7 1 z8).bind fun S9 =>
    (gR S9 a0 7 2).bind fun o10 =>
    (gR S9 a0 7 2).bind fun o11 =>
    (aI S9 o11 8 x1).bind fun v12 =>
    (sI S9 o10 8 v3 v12).bind fun S13 =>
    f_X6_flat_143 FU a0 x1 x3 v3 0 S13
  else
    rI 0 S1
set_option maxHeartbeats 4000000 in
set_option maxRecDepth 100000 in
theorem w_X6_flat_93 {p : Program} {l : Launch} {e : Env} {R : Room} {s : State} {m : MethodId} {args : Array Value} {below : List Frame} {meth : Method} {c : Code} {b : Nat} {D : va_G} {dA : Nat → ClassId} {S0 : AS} {q : RS} (C : hp_C p l e R s m args below meth c b D dA S0 RX6 cX6_flat 11 8 67) (hT : ∀ x ∈ c.exceptionTable.toList, False) (hnm : meth.name = "flat") (hr : meth.sig.returnType = (some .int)) : ∀ (a0 : Option Nat) (x1 : Int) (x3 : Int) (t0 : Int) (u1 : Option Nat) (S : AS), inR x1 → inR x3 → inR t0 → f_X6_flat_93 a0 x1 x3 t0 u1 S = some q → ∀ ls : Array Slot, hp_L ls 11 [(0, rf b a0), (1, iv x1), (3, iv x3)] → hp_J p l e R s m args below meth c b D dA S0 (hp_Q below b D dA S0 1 q args s) S 93 ls [iv t0, rf b u1] := by
  have hst : l.stackTraces = false := C.2.2.2.2.2.2.2.2.2.2.1
  intro a0 x1 x3 t0 u1 S hx1 hx3 ht0 h ls hl
  unfold f_X6_flat_93 at h
  obtain ⟨S1, g_S1, h⟩ := bd h
  refine j_pI C dX6_flat_93 fl_RX6_85 (Or.inl rfl) rfl ht0 g_S1 ?_
  refine j_aload_n C dX6_flat_96 rfl (hl.at 0 rfl) ?_
  obtain ⟨v2, g_v2, h⟩ := bd h
  refine j_gI C dX6_flat_97 fl_RX6_85 (Or.inl rfl) g_v2 (fun hv2 => ?_)
  refine j_if_le (tgt := 105) C dX6_flat_100 (by decide) hv2 (fun b1 => ?_) (fun b1 => ?_)
  · rw [if_pos b1] at h
    refine j_aload_n C dX6_flat_105 rfl (hl.at 0 rfl) ?_
    obtain ⟨v3, g_v3, h⟩ := bd h
    refine j_gI C dX6_flat_106 fl_RX6_89 (Or.inl rfl) g_v3 (fun hv3 => ?_)
    refine k_istore (lv' := [(5, iv v3), (0, rf b a0), (1, iv x1), (3, iv x3)]) C dX6_flat_109 hl (by decide) rfl (fun ls hl => ?_)
    refine j_aload_n C dX6_flat_111 rfl (hl.at 1 rfl) ?_
    refine j_iload C dX6_flat_112 (hl.at 0 rfl) ?_
    obtain ⟨c6, h⟩ := gd_some h
    rcases cV_some h with ⟨S4, y5, hc, h⟩ | ⟨hc, hne⟩
    · refine j_callV C (run_W (As := [iv v3]) (rest := []) C (m_X6_begin hst hv3 hc) cv_RX6_92 (by decide) rfl c6 rfl hl (by decide) (by decide) (by decide) dX6_flat_114) ?_
      refine j_aload_n C dX6_flat_117 rfl (hl.at 1 rfl) ?_
      refine j_dup C dX6_flat_118 (cat_rf _ _) ?_
      obtain ⟨v7, g_v7, h⟩ := bd h
      refine j_gI C dX6_flat_119 fl_RX6_89 (Or.inl rfl) g_v7 (fun hv7 => ?_)
      refine j_iconst C dX6_flat_122 ?_
      obtain ⟨z8, g_z8, h⟩ := bd h
      refine j_iadd C dX6_flat_123 g_z8 (fun hz8 => ?_)
      obtain ⟨S9, g_S9, h⟩ := bd h
      refine j_pI C dX6_flat_124 fl_RX6_89 (Or.inl rfl) rfl hz8 g_S9 ?_
      refine j_aload_n C dX6_flat_127 rfl (hl.at 1 rfl) ?_
      obtain ⟨o10, g_o10, h⟩ := bd h
      refine j_gR C dX6_flat_128 fl_RX6_7 rfl g_o10 ?_
      refine j_iload C dX6_flat_131 (hl.at 0 rfl) ?_
      refine j_aload_n C dX6_flat_133 rfl (hl.at 1 rfl) ?_
      obtain ⟨o11, g_o11, h⟩ := bd h
      refine j_gR C dX6_flat_134 fl_RX6_7 rfl g_o11 ?_
      refine j_iload_n C dX6_flat_137 rfl (hl.at 2 rfl) ?_
      obtain ⟨v12, g_v12, h⟩ := bd h
      refine j_iald C dX6_flat_138 hx1 g_v12 (fun hv12 => ?_)
      obtain ⟨S13, g_S13, h⟩ := bd h
      refine j_iast C dX6_flat_139 hv3 hv12 g_S13 ?_
      refine j_iconst C dX6_flat_140 ?_
      refine k_istore (lv' := [(6, iv 0), (5, iv v3), (0, rf b a0), (1, iv x1), (3, iv x3)]) C dX6_flat_141 hl (by decide) rfl (fun ls hl => ?_)
      exact w_X6_flat_143 C hT hnm hr FU _ _ _ _ _ _ hx1 hx3 hv3 (by decide) h ls (hl.sub [2, 3, 4, 1, 0] rfl)
    · exact j_thrown C hT (run_W (As := [iv v3]) (rest := []) C (m_X6_begin hst hv3 hc) cv_RX6_92 (by decide) rfl c6 rfl hl (by decide) (by decide) (by decide) dX6_flat_114) hne
  · rw [if_neg b1] at h
    refine j_iconst C dX6_flat_103 ?_
    exact j_iret C dX6_flat_104 hr (by decide) h
noncomputable def f_X6_flat_92 (a0 : Option Nat) (x1 : Int) (x3 : Int) (u0 : Option Nat) (S : AS) : Option RS :=
  f_X6_flat_93 a0 x1 x3 3 u0 S
set_option maxHeartbeats 4000000 in
set_option maxRecDepth 100000 in
theorem w_X6_flat_92 {p : Program} {l : Launch} {e : Env} {R : Room} {s : State} {m : MethodId} {args : Array Value} {below : List Frame} {meth : Method} {c : Code} {b : Nat} {D : va_G} {dA : Nat → ClassId} {S0 : AS} {q : RS} (C : hp_C p l e R s m args below meth c b D dA S0 RX6 cX6_flat 11 8 67) (hT : ∀ x ∈ c.exceptionTable.toList, False) (hnm : meth.name = "flat") (hr : meth.sig.returnType = (some .int)) : ∀ (a0 : Option Nat) (x1 : Int) (x3 : Int) (u0 : Option Nat) (S : AS), inR x1 → inR x3 → f_X6_flat_92 a0 x1 x3 u0 S = some q → ∀ ls : Array Slot, hp_L ls 11 [(0, rf b a0), (1, iv x1), (3, iv x3)] → hp_J p l e R s m args below meth c b D dA S0 (hp_Q below b D dA S0 1 q args s) S 92 ls [rf b u0] := by
  have hst : l.stackTraces = false := C.2.2.2.2.2.2.2.2.2.2.1
  intro a0 x1 x3 u0 S hx1 hx3 h ls hl
  unfold f_X6_flat_92 at h
  refine j_iconst C dX6_flat_92 ?_
  exact w_X6_flat_93 C hT hnm hr _ _ _ _ _ _ hx1 hx3 (by decide) h ls (hl.sub [0, 1, 2] rfl)
noncomputable def f_X6_flat_75 (a0 : Option Nat) (x1 : Int) (x3 : Int) (x4 : Int) (S : AS) : Option RS :=
  if x4 = 0 then
    f_X6_flat_92 a0 x1 x3 a0 S
  else
    if 128 < x3 then
      f_X6_flat_92 a0 x1 x3 a0 S
    else
      f_X6_flat_93 a0 x1 x3 0 a0 S
set_option maxHeartbeats 4000000 in
set_option maxRecDepth 100000 in
theorem w_X6_flat_75 {p : Program} {l : Launch} {e : Env} {R : Room} {s : State} {m : MethodId} {args : Array Value} {below : List Frame} {meth : Method} {c : Code} {b : Nat} {D : va_G} {dA : Nat → ClassId} {S0 : AS} {q : RS} (C : hp_C p l e R s m args below meth c b D dA S0 RX6 cX6_flat 11 8 67) (hT : ∀ x ∈ c.exceptionTable.toList, False) (hnm : meth.name = "flat") (hr : meth.sig.returnType = (some .int)) : ∀ (a0 : Option Nat) (x1 : Int) (x3 : Int) (x4 : Int) (S : AS), inR x1 → inR x3 → inR x4 → f_X6_flat_75 a0 x1 x3 x4 S = some q → ∀ ls : Array Slot, hp_L ls 11 [(0, rf b a0), (1, iv x1), (3, iv x3), (4, iv x4)] → hp_J p l e R s m args below meth c b D dA S0 (hp_Q below b D dA S0 1 q args s) S 75 ls [] := by
  have hst : l.stackTraces = false := C.2.2.2.2.2.2.2.2.2.2.1
  intro a0 x1 x3 x4 S hx1 hx3 hx4 h ls hl
  unfold f_X6_flat_75 at h
  refine j_aload_n C dX6_flat_75 rfl (hl.at 0 rfl) ?_
  refine j_iload C dX6_flat_76 (hl.at 3 rfl) ?_
  refine j_if_eq (tgt := 92) C dX6_flat_78 (by decide) hx4 (fun b1 => ?_) (fun b1 => ?_)
  · rw [if_pos b1] at h
    exact w_X6_flat_92 C hT hnm hr _ _ _ _ _ hx1 hx3 h ls (hl.sub [0, 1, 2] rfl)
  · rw [if_neg b1] at h
    refine j_iload_n C dX6_flat_81 rfl (hl.at 2 rfl) ?_
    refine j_sipush (x := 128) C dX6_flat_82 (by decide) ?_
    refine j_icmp_gt (tgt := 92) C dX6_flat_85 (by decide) hx3 (by decide) (fun b1 => ?_) (fun b1 => ?_)
    · rw [if_pos b1] at h
      exact w_X6_flat_92 C hT hnm hr _ _ _ _ _ hx1 hx3 h ls (hl.sub [0, 1, 2] rfl)
    · rw [if_neg b1] at h
      refine j_iconst C dX6_flat_88 ?_
      refine j_goto (tgt := 93) C dX6_flat_89 (by decide) ?_
      exact w_X6_flat_93 C hT hnm hr _ _ _ _ _ _ hx1 hx3 (by decide) h ls (hl.sub [0, 1, 2] rfl)
noncomputable def f_X6_flat_63 (a0 : Option Nat) (x1 : Int) (x3 : Int) (t0 : Int) (S : AS) : Option RS :=
  if t0 = 0 then
    f_X6_flat_75 a0 x1 x3 t0 S
  else
    gd (isK S a0 7) <|
    cI (f_X6_number a0 S) fun v2 S1 =>
    f_X6_flat_75 a0 x1 v2 t0 S1
set_option maxHeartbeats 4000000 in
set_option maxRecDepth 100000 in
theorem w_X6_flat_63 {p : Program} {l : Launch} {e : Env} {R : Room} {s : State} {m : MethodId} {args : Array Value} {below : List Frame} {meth : Method} {c : Code} {b : Nat} {D : va_G} {dA : Nat → ClassId} {S0 : AS} {q : RS} (C : hp_C p l e R s m args below meth c b D dA S0 RX6 cX6_flat 11 8 67) (hT : ∀ x ∈ c.exceptionTable.toList, False) (hnm : meth.name = "flat") (hr : meth.sig.returnType = (some .int)) : ∀ (a0 : Option Nat) (x1 : Int) (x3 : Int) (t0 : Int) (S : AS), inR x1 → inR x3 → inR t0 → f_X6_flat_63 a0 x1 x3 t0 S = some q → ∀ ls : Array Slot, hp_L ls 11 [(0, rf b a0), (1, iv x1), (3, iv x3)] → hp_J p l e R s m args below meth c b D dA S0 (hp_Q below b D dA S0 1 q args s) S 63 ls [iv t0] := by
  have hst : l.stackTraces = false := C.2.2.2.2.2.2.2.2.2.2.1
  intro a0 x1 x3 t0 S hx1 hx3 ht0 h ls hl
  unfold f_X6_flat_63 at h
  refine k_istore (lv' := [(4, iv t0), (0, rf b a0), (1, iv x1), (3, iv x3)]) C dX6_flat_63 hl (by decide) rfl (fun ls hl => ?_)
  refine j_iload C dX6_flat_65 (hl.at 0 rfl) ?_
  refine j_if_eq (tgt := 75) C dX6_flat_67 (by decide) ht0 (fun b1 => ?_) (fun b1 => ?_)
  · rw [if_pos b1] at h
    exact w_X6_flat_75 C hT hnm hr _ _ _ _ _ hx1 hx3 ht0 h ls (hl.sub [1, 2, 3, 0] rfl)
  · rw [if_neg b1] at h
    refine j_aload_n C dX6_flat_70 rfl (hl.at 1 rfl) ?_
    obtain ⟨c3, h⟩ := gd_some h
    rcases cI_some h with ⟨S1, v2, wv2, hc, h⟩ | ⟨hc, hne⟩
    · refine j_callI C (run_W (As := []) (rest := []) C (m_X6_number hst hc) cv_RX6_159 (by decide) rfl c3 rfl hl (by decide) (by decide) (by decide) dX6_flat_71) (fun hv2 => ?_)
      refine k_istore_n (lv' := [(3, iv v2), (4, iv t0), (0, rf b a0), (1, iv x1)]) C dX6_flat_74 rfl hl (by decide) rfl (fun ls hl => ?_)
      exact w_X6_flat_75 C hT hnm hr _ _ _ _ _ hx1 hv2 ht0 h ls (hl.sub [2, 3, 0, 1] rfl)
    · exact j_thrown C hT (run_W (As := []) (rest := []) C (m_X6_number hst hc) cv_RX6_159 (by decide) rfl c3 rfl hl (by decide) (by decide) (by decide) dX6_flat_71) hne
noncomputable def f_X6_flat_62 (a0 : Option Nat) (x1 : Int) (x3 : Int) (S : AS) : Option RS :=
  f_X6_flat_63 a0 x1 x3 0 S
set_option maxHeartbeats 4000000 in
set_option maxRecDepth 100000 in
theorem w_X6_flat_62 {p : Program} {l : Launch} {e : Env} {R : Room} {s : State} {m : MethodId} {args : Array Value} {below : List Frame} {meth : Method} {c : Code} {b : Nat} {D : va_G} {dA : Nat → ClassId} {S0 : AS} {q : RS} (C : hp_C p l e R s m args below meth c b D dA S0 RX6 cX6_flat 11 8 67) (hT : ∀ x ∈ c.exceptionTable.toList, False) (hnm : meth.name = "flat") (hr : meth.sig.returnType = (some .int)) : ∀ (a0 : Option Nat) (x1 : Int) (x3 : Int) (S : AS), inR x1 → inR x3 → f_X6_flat_62 a0 x1 x3 S = some q → ∀ ls : Array Slot, hp_L ls 11 [(0, rf b a0), (1, iv x1), (3, iv x3)] → hp_J p l e R s m args below meth c b D dA S0 (hp_Q below b D dA S0 1 q args s) S 62 ls [] := by
  have hst : l.stackTraces = false := C.2.2.2.2.2.2.2.2.2.2.1
  intro a0 x1 x3 S hx1 hx3 h ls hl
  unfold f_X6_flat_62 at h
  refine j_iconst C dX6_flat_62 ?_
  exact w_X6_flat_63 C hT hnm hr _ _ _ _ _ hx1 hx3 (by decide) h ls (hl.sub [0, 1, 2] rfl)
noncomputable def f_X6_flat_33 (a0 : Option Nat) (x1 : Int) (t0 : Int) (t1 : Int) (u2 : Option Nat) (S : AS) : Option RS :=
  gd (isK S u2 7) <|
  cI (f_X6_refused u2 t1 t0 S) fun v2 S1 =>
  if v2 = 0 then
    gd (isK S1 a0 7) <|
    cI (f_X6_walk a0 x1 S1) fun v5 S4 =>
    if v5 = 0 then
      f_X6_flat_62 a0 x1 0 S4
    else
      gd (isK S4 a0 7) <|
      cI (f_X6_unite a0 S4) fun v8 S7 =>
      if v8 = 0 then
        f_X6_flat_62 a0 x1 0 S7
      else
        f_X6_flat_63 a0 x1 0 1 S7
  else
    rI 0 S1
set_option maxHeartbeats 4000000 in
set_option maxRecDepth 100000 in
theorem w_X6_flat_33 {p : Program} {l : Launch} {e : Env} {R : Room} {s : State} {m : MethodId} {args : Array Value} {below : List Frame} {meth : Method} {c : Code} {b : Nat} {D : va_G} {dA : Nat → ClassId} {S0 : AS} {q : RS} (C : hp_C p l e R s m args below meth c b D dA S0 RX6 cX6_flat 11 8 67) (hT : ∀ x ∈ c.exceptionTable.toList, False) (hnm : meth.name = "flat") (hr : meth.sig.returnType = (some .int)) : ∀ (a0 : Option Nat) (x1 : Int) (t0 : Int) (t1 : Int) (u2 : Option Nat) (S : AS), inR x1 → inR t0 → inR t1 → f_X6_flat_33 a0 x1 t0 t1 u2 S = some q → ∀ ls : Array Slot, hp_L ls 11 [(0, rf b a0), (1, iv x1)] → hp_J p l e R s m args below meth c b D dA S0 (hp_Q below b D dA S0 1 q args s) S 33 ls [iv t0, iv t1, rf b u2] := by
  have hst : l.stackTraces = false := C.2.2.2.2.2.2.2.2.2.2.1
  intro a0 x1 t0 t1 u2 S hx1 ht0 ht1 h ls hl
  unfold f_X6_flat_33 at h
  obtain ⟨c3, h⟩ := gd_some h
  rcases cI_some h with ⟨S1, v2, wv2, hc, h⟩ | ⟨hc, hne⟩
  · refine j_callI C (run_W (As := [iv t1, iv t0]) (rest := []) C (m_X6_refused hst ht1 ht0 hc) cv_RX6_107 (by decide) rfl c3 rfl hl (by decide) (by decide) (by decide) dX6_flat_33) (fun hv2 => ?_)
    refine j_if_eq (tgt := 41) C dX6_flat_36 (by decide) hv2 (fun b1 => ?_) (fun b1 => ?_)
    · rw [if_pos b1] at h
      refine j_iconst C dX6_flat_41 ?_
      refine k_istore_n (lv' := [(3, iv 0), (0, rf b a0), (1, iv x1)]) C dX6_flat_42 rfl hl (by decide) rfl (fun ls hl => ?_)
      refine j_aload_n C dX6_flat_43 rfl (hl.at 1 rfl) ?_
      refine j_iload_n C dX6_flat_44 rfl (hl.at 2 rfl) ?_
      obtain ⟨c6, h⟩ := gd_some h
      rcases cI_some h with ⟨S4, v5, wv5, hc, h⟩ | ⟨hc, hne⟩
      · refine j_callI C (run_W (As := [iv x1]) (rest := []) C (m_X6_walk hst hx1 hc) cv_RX6_152 (by decide) rfl c6 rfl hl (by decide) (by decide) (by decide) dX6_flat_45) (fun hv5 => ?_)
        refine j_if_eq (tgt := 62) C dX6_flat_48 (by decide) hv5 (fun b1 => ?_) (fun b1 => ?_)
        · rw [if_pos b1] at h
          exact w_X6_flat_62 C hT hnm hr _ _ _ _ hx1 (by decide) h ls (hl.sub [1, 2, 0] rfl)
        · rw [if_neg b1] at h
          refine j_aload_n C dX6_flat_51 rfl (hl.at 1 rfl) ?_
          obtain ⟨c9, h⟩ := gd_some h
          rcases cI_some h with ⟨S7, v8, wv8, hc, h⟩ | ⟨hc, hne⟩
          · refine j_callI C (run_W (As := []) (rest := []) C (m_X6_unite hst hc) cv_RX6_155 (by decide) rfl c9 rfl hl (by decide) (by decide) (by decide) dX6_flat_52) (fun hv8 => ?_)
            refine j_if_eq (tgt := 62) C dX6_flat_55 (by decide) hv8 (fun b1 => ?_) (fun b1 => ?_)
            · rw [if_pos b1] at h
              exact w_X6_flat_62 C hT hnm hr _ _ _ _ hx1 (by decide) h ls (hl.sub [1, 2, 0] rfl)
            · rw [if_neg b1] at h
              refine j_iconst C dX6_flat_58 ?_
              refine j_goto (tgt := 63) C dX6_flat_59 (by decide) ?_
              exact w_X6_flat_63 C hT hnm hr _ _ _ _ _ hx1 (by decide) (by decide) h ls (hl.sub [1, 2, 0] rfl)
          · exact j_thrown C hT (run_W (As := []) (rest := []) C (m_X6_unite hst hc) cv_RX6_155 (by decide) rfl c9 rfl hl (by decide) (by decide) (by decide) dX6_flat_52) hne
      · exact j_thrown C hT (run_W (As := [iv x1]) (rest := []) C (m_X6_walk hst hx1 hc) cv_RX6_152 (by decide) rfl c6 rfl hl (by decide) (by decide) (by decide) dX6_flat_45) hne
    · rw [if_neg b1] at h
      refine j_iconst C dX6_flat_39 ?_
      exact j_iret C dX6_flat_40 hr (by decide) h
  · exact j_thrown C hT (run_W (As := [iv t1, iv t0]) (rest := []) C (m_X6_refused hst ht1 ht0 hc) cv_RX6_107 (by decide) rfl c3 rfl hl (by decide) (by decide) (by decide) dX6_flat_33) hne
noncomputable def f_X6_flat_19 (a0 : Option Nat) (x1 : Int) (t0 : Int) (u1 : Option Nat) (S : AS) : Option RS :=
  (gI S a0 7 1).bind fun v1 =>
  if v1 = 24 then
    f_X6_flat_33 a0 x1 1 t0 u1 S
  else
    f_X6_flat_33 a0 x1 0 t0 u1 S
set_option maxHeartbeats 4000000 in
set_option maxRecDepth 100000 in
theorem w_X6_flat_19 {p : Program} {l : Launch} {e : Env} {R : Room} {s : State} {m : MethodId} {args : Array Value} {below : List Frame} {meth : Method} {c : Code} {b : Nat} {D : va_G} {dA : Nat → ClassId} {S0 : AS} {q : RS} (C : hp_C p l e R s m args below meth c b D dA S0 RX6 cX6_flat 11 8 67) (hT : ∀ x ∈ c.exceptionTable.toList, False) (hnm : meth.name = "flat") (hr : meth.sig.returnType = (some .int)) : ∀ (a0 : Option Nat) (x1 : Int) (t0 : Int) (u1 : Option Nat) (S : AS), inR x1 → inR t0 → f_X6_flat_19 a0 x1 t0 u1 S = some q → ∀ ls : Array Slot, hp_L ls 11 [(0, rf b a0), (1, iv x1)] → hp_J p l e R s m args below meth c b D dA S0 (hp_Q below b D dA S0 1 q args s) S 19 ls [iv t0, rf b u1] := by
  have hst : l.stackTraces = false := C.2.2.2.2.2.2.2.2.2.2.1
  intro a0 x1 t0 u1 S hx1 ht0 h ls hl
  unfold f_X6_flat_19 at h
  refine j_aload_n C dX6_flat_19 rfl (hl.at 0 rfl) ?_
  obtain ⟨v1, g_v1, h⟩ := bd h
  refine j_gI C dX6_flat_20 fl_RX6_89 (Or.inl rfl) g_v1 (fun hv1 => ?_)
  refine j_bipush (x := 24) C dX6_flat_23 (by decide) ?_
  refine j_icmp_ne (tgt := 32) C dX6_flat_25 (by decide) hv1 (by decide) (fun b1 => ?_) (fun b1 => ?_)
  · rw [if_neg b1] at h
    refine j_iconst C dX6_flat_32 ?_
    exact w_X6_flat_33 C hT hnm hr _ _ _ _ _ _ hx1 (by decide) ht0 h ls (hl.sub [0, 1] rfl)
  · rw [if_pos (Decidable.byContradiction b1)] at h
    refine j_iconst C dX6_flat_28 ?_
    refine j_goto (tgt := 33) C dX6_flat_29 (by decide) ?_
    exact w_X6_flat_33 C hT hnm hr _ _ _ _ _ _ hx1 (by decide) ht0 h ls (hl.sub [0, 1] rfl)
noncomputable def f_X6_flat (a0 : Option Nat) (x1 : Int) (S : AS) : Option RS :=
  (gI S a0 7 1).bind fun v1 =>
  cI (f_X6_isIn x1 v1 S) fun v3 S2 =>
  if v3 = 0 then
    f_X6_flat_19 a0 x1 1 a0 S2
  else
    f_X6_flat_19 a0 x1 0 a0 S2
set_option maxHeartbeats 4000000 in
set_option maxRecDepth 100000 in
theorem m_X6_flat {l : Launch} {b : Nat} {D : va_G} {dA : Nat → ClassId} (hst : l.stackTraces = false) {a0 : Option Nat} {x1 : Int} {S : AS} {q : RS} (hx1 : inR x1) (h : f_X6_flat a0 x1 S = some q) : hp_M l b D dA yX6_flat cX6_flat 11 (some .int) 8 67 [rf b a0, iv x1] S 1 q := by
  have hcat : ∀ v ∈ ([rf b a0, iv x1] : List Value), v.category = 1 := (by intro v hv; simp only [List.mem_cons, List.not_mem_nil, or_false] at hv; rcases hv with rfl | rfl <;> first | exact cat_iv _ | exact cat_rf _ _)
  refine hp_ofJ (own := RX6) hst (by decide +kernel) rfl hcat (Nat.le_of_ble_eq_true rfl) ?_
  intro p e R s m args below meth c C hT hnm hr ls hl9
  have hl : hp_L ls 11 [(0, rf b a0), (1, iv x1)] := hp_L.of hl9 hcat
  unfold f_X6_flat at h
  refine j_iload_n C dX6_flat_0 rfl (hl.at 1 rfl) ?_
  refine j_aload_n C dX6_flat_1 rfl (hl.at 0 rfl) ?_
  obtain ⟨v1, g_v1, h⟩ := bd h
  refine j_gI C dX6_flat_2 fl_RX6_89 (Or.inl rfl) g_v1 (fun hv1 => ?_)
  rcases cI_some h with ⟨S2, v3, wv3, hc, h⟩ | ⟨hc, hne⟩
  · refine j_callI C (run_S (As := [iv x1, iv v1]) (rest := []) C (m_X6_isIn hst hx1 hv1 hc) cs_RX6_99 rfl hl.1.1 (by decide) (by decide) (by decide) dX6_flat_5) (fun hv3 => ?_)
    refine k_istore_n (lv' := [(2, iv v3), (0, rf b a0), (1, iv x1)]) C dX6_flat_8 rfl hl (by decide) rfl (fun ls hl => ?_)
    refine j_aload_n C dX6_flat_9 rfl (hl.at 1 rfl) ?_
    refine j_iload_n C dX6_flat_10 rfl (hl.at 0 rfl) ?_
    refine j_if_ne (tgt := 18) C dX6_flat_11 (by decide) hv3 (fun b1 => ?_) (fun b1 => ?_)
    · rw [if_neg b1] at h
      refine j_iconst C dX6_flat_18 ?_
      exact w_X6_flat_19 C hT hnm hr _ _ _ _ _ hx1 (by decide) h ls (hl.sub [1, 2] rfl)
    · rw [if_pos (Decidable.byContradiction b1)] at h
      refine j_iconst C dX6_flat_14 ?_
      refine j_goto (tgt := 19) C dX6_flat_15 (by decide) ?_
      exact w_X6_flat_19 C hT hnm hr _ _ _ _ _ hx1 (by decide) h ls (hl.sub [1, 2] rfl)
  · exact j_thrown C hT (run_S (As := [iv x1, iv v1]) (rest := []) C (m_X6_isIn hst hx1 hv1 hc) cs_RX6_99 rfl hl.1.1 (by decide) (by decide) (by decide) dX6_flat_5) hne
noncomputable def f_X6_path_46 (a0 : Option Nat) (x1 : Int) (x2 : Int) (x3 : Int) (t0 : Int) (u1 : Option Nat) (S : AS) : Option RS :=
  gd (isK S u1 7) <|
  cI (f_X6_refused u1 t0 0 S) fun v2 S1 =>
  if v2 = 0 then
    (chk (64 * x1)).bind fun z4 =>
    (chk (z4 + x2)).bind fun z5 =>
    (gR S1 a0 7 11).bind fun o6 =>
    (aI S1 o6 8 z5).bind fun v7 =>
    if v7 = 0 then
      if x3 = 0 then
        rI x2 S1
      else
        rI (-1) S1
    else
      (gR S1 a0 7 11).bind fun o8 =>
      (aI S1 o8 8 z5).bind fun v9 =>
      if v9 ≤ x3 then
        rI (-1) S1
      else
        (gR S1 a0 7 12).bind fun o10 =>
        (chk (24 * z5)).bind fun z11 =>
        (chk (z11 + x3)).bind fun z12 =>
        (aI S1 o10 8 z12).bind fun v13 =>
        rI v13 S1
  else
    rI 0 S1
set_option maxHeartbeats 4000000 in
set_option maxRecDepth 100000 in
theorem w_X6_path_46 {p : Program} {l : Launch} {e : Env} {R : Room} {s : State} {m : MethodId} {args : Array Value} {below : List Frame} {meth : Method} {c : Code} {b : Nat} {D : va_G} {dA : Nat → ClassId} {S0 : AS} {q : RS} (C : hp_C p l e R s m args below meth c b D dA S0 RX6 cX6_path 6 7 38) (hT : ∀ x ∈ c.exceptionTable.toList, False) (hnm : meth.name = "path") (hr : meth.sig.returnType = (some .int)) : ∀ (a0 : Option Nat) (x1 : Int) (x2 : Int) (x3 : Int) (t0 : Int) (u1 : Option Nat) (S : AS), inR x1 → inR x2 → inR x3 → inR t0 → f_X6_path_46 a0 x1 x2 x3 t0 u1 S = some q → ∀ ls : Array Slot, hp_L ls 6 [(0, rf b a0), (1, iv x1), (2, iv x2), (3, iv x3)] → hp_J p l e R s m args below meth c b D dA S0 (hp_Q below b D dA S0 1 q args s) S 46 ls [iv t0, rf b u1] := by
  have hst : l.stackTraces = false := C.2.2.2.2.2.2.2.2.2.2.1
  intro a0 x1 x2 x3 t0 u1 S hx1 hx2 hx3 ht0 h ls hl
  unfold f_X6_path_46 at h
  refine j_iconst C dX6_path_46 ?_
  obtain ⟨c3, h⟩ := gd_some h
  rcases cI_some h with ⟨S1, v2, wv2, hc, h⟩ | ⟨hc, hne⟩
  · refine j_callI C (run_W (As := [iv t0, iv 0]) (rest := []) C (m_X6_refused hst ht0 (by decide) hc) cv_RX6_107 (by decide) rfl c3 rfl hl (by decide) (by decide) (by decide) dX6_path_47) (fun hv2 => ?_)
    refine j_if_eq (tgt := 55) C dX6_path_50 (by decide) hv2 (fun b1 => ?_) (fun b1 => ?_)
    · rw [if_pos b1] at h
      refine j_bipush (x := 64) C dX6_path_55 (by decide) ?_
      refine j_iload_n C dX6_path_57 rfl (hl.at 1 rfl) ?_
      obtain ⟨z4, g_z4, h⟩ := bd h
      refine j_imul C dX6_path_58 g_z4 (fun hz4 => ?_)
      refine j_iload_n C dX6_path_59 rfl (hl.at 2 rfl) ?_
      obtain ⟨z5, g_z5, h⟩ := bd h
      refine j_iadd C dX6_path_60 g_z5 (fun hz5 => ?_)
      refine k_istore (lv' := [(5, iv z5), (0, rf b a0), (1, iv x1), (2, iv x2), (3, iv x3)]) C dX6_path_61 hl (by decide) rfl (fun ls hl => ?_)
      refine j_aload_n C dX6_path_63 rfl (hl.at 1 rfl) ?_
      obtain ⟨o6, g_o6, h⟩ := bd h
      refine j_gR C dX6_path_64 fl_RX6_36 rfl g_o6 ?_
      refine j_iload C dX6_path_67 (hl.at 0 rfl) ?_
      obtain ⟨v7, g_v7, h⟩ := bd h
      refine j_iald C dX6_path_69 hz5 g_v7 (fun hv7 => ?_)
      refine j_if_ne (tgt := 83) C dX6_path_70 (by decide) hv7 (fun b1 => ?_) (fun b1 => ?_)
      · rw [if_neg b1] at h
        refine j_iload_n C dX6_path_83 rfl (hl.at 4 rfl) ?_
        refine j_aload_n C dX6_path_84 rfl (hl.at 1 rfl) ?_
        obtain ⟨o8, g_o8, h⟩ := bd h
        refine j_gR C dX6_path_85 fl_RX6_36 rfl g_o8 ?_
        refine j_iload C dX6_path_88 (hl.at 0 rfl) ?_
        obtain ⟨v9, g_v9, h⟩ := bd h
        refine j_iald C dX6_path_90 hz5 g_v9 (fun hv9 => ?_)
        refine j_icmp_ge (tgt := 109) C dX6_path_91 (by decide) hx3 hv9 (fun b1 => ?_) (fun b1 => ?_)
        · rw [if_pos b1] at h
          refine j_iconst C dX6_path_109 ?_
          exact j_iret C dX6_path_110 hr (by decide) h
        · rw [if_neg b1] at h
          refine j_aload_n C dX6_path_94 rfl (hl.at 1 rfl) ?_
          obtain ⟨o10, g_o10, h⟩ := bd h
          refine j_gR C dX6_path_95 fl_RX6_40 rfl g_o10 ?_
          refine j_bipush (x := 24) C dX6_path_98 (by decide) ?_
          refine j_iload C dX6_path_100 (hl.at 0 rfl) ?_
          obtain ⟨z11, g_z11, h⟩ := bd h
          refine j_imul C dX6_path_102 g_z11 (fun hz11 => ?_)
          refine j_iload_n C dX6_path_103 rfl (hl.at 4 rfl) ?_
          obtain ⟨z12, g_z12, h⟩ := bd h
          refine j_iadd C dX6_path_104 g_z12 (fun hz12 => ?_)
          obtain ⟨v13, g_v13, h⟩ := bd h
          refine j_iald C dX6_path_105 hz12 g_v13 (fun hv13 => ?_)
          refine j_goto (tgt := 110) C dX6_path_106 (by decide) ?_
          exact j_iret C dX6_path_110 hr hv13 h
      · rw [if_pos (Decidable.byContradiction b1)] at h
        refine j_iload_n C dX6_path_73 rfl (hl.at 4 rfl) ?_
        refine j_if_ne (tgt := 81) C dX6_path_74 (by decide) hx3 (fun b1 => ?_) (fun b1 => ?_)
        · rw [if_neg b1] at h
          refine j_iconst C dX6_path_81 ?_
          exact j_iret C dX6_path_82 hr (by decide) h
        · rw [if_pos (Decidable.byContradiction b1)] at h
          refine j_iload_n C dX6_path_77 rfl (hl.at 3 rfl) ?_
          refine j_goto (tgt := 82) C dX6_path_78 (by decide) ?_
          exact j_iret C dX6_path_82 hr hx2 h
    · rw [if_neg b1] at h
      refine j_iconst C dX6_path_53 ?_
      exact j_iret C dX6_path_54 hr (by decide) h
  · exact j_thrown C hT (run_W (As := [iv t0, iv 0]) (rest := []) C (m_X6_refused hst ht0 (by decide) hc) cv_RX6_107 (by decide) rfl c3 rfl hl (by decide) (by decide) (by decide) dX6_path_47) hne
noncomputable def f_X6_path_33 (a0 : Option Nat) (x1 : Int) (x2 : Int) (x3 : Int) (t0 : Int) (S : AS) : Option RS :=
  if t0 = 0 then
    f_X6_path_46 a0 x1 x2 x3 1 a0 S
  else
    f_X6_path_46 a0 x1 x2 x3 0 a0 S
set_option maxHeartbeats 4000000 in
set_option maxRecDepth 100000 in
theorem w_X6_path_33 {p : Program} {l : Launch} {e : Env} {R : Room} {s : State} {m : MethodId} {args : Array Value} {below : List Frame} {meth : Method} {c : Code} {b : Nat} {D : va_G} {dA : Nat → ClassId} {S0 : AS} {q : RS} (C : hp_C p l e R s m args below meth c b D dA S0 RX6 cX6_path 6 7 38) (hT : ∀ x ∈ c.exceptionTable.toList, False) (hnm : meth.name = "path") (hr : meth.sig.returnType = (some .int)) : ∀ (a0 : Option Nat) (x1 : Int) (x2 : Int) (x3 : Int) (t0 : Int) (S : AS), inR x1 → inR x2 → inR x3 → inR t0 → f_X6_path_33 a0 x1 x2 x3 t0 S = some q → ∀ ls : Array Slot, hp_L ls 6 [(0, rf b a0), (1, iv x1), (2, iv x2), (3, iv x3)] → hp_J p l e R s m args below meth c b D dA S0 (hp_Q below b D dA S0 1 q args s) S 33 ls [iv t0] := by
  have hst : l.stackTraces = false := C.2.2.2.2.2.2.2.2.2.2.1
  intro a0 x1 x2 x3 t0 S hx1 hx2 hx3 ht0 h ls hl
  unfold f_X6_path_33 at h
  refine k_istore (lv' := [(4, iv t0), (0, rf b a0), (1, iv x1), (2, iv x2), (3, iv x3)]) C dX6_path_33 hl (by decide) rfl (fun ls hl => ?_)
  refine j_aload_n C dX6_path_35 rfl (hl.at 1 rfl) ?_
  refine j_iload C dX6_path_36 (hl.at 0 rfl) ?_
  refine j_if_ne (tgt := 45) C dX6_path_38 (by decide) ht0 (fun b1 => ?_) (fun b1 => ?_)
  · rw [if_neg b1] at h
    refine j_iconst C dX6_path_45 ?_
    exact w_X6_path_46 C hT hnm hr _ _ _ _ _ _ _ hx1 hx2 hx3 (by decide) h ls (hl.sub [1, 2, 3, 4] rfl)
  · rw [if_pos (Decidable.byContradiction b1)] at h
    refine j_iconst C dX6_path_41 ?_
    refine j_goto (tgt := 46) C dX6_path_42 (by decide) ?_
    exact w_X6_path_46 C hT hnm hr _ _ _ _ _ _ _ hx1 hx2 hx3 (by decide) h ls (hl.sub [1, 2, 3, 4] rfl)
noncomputable def f_X6_path_32 (a0 : Option Nat) (x1 : Int) (x2 : Int) (x3 : Int) (S : AS) : Option RS :=
  f_X6_path_33 a0 x1 x2 x3 0 S
set_option maxHeartbeats 4000000 in
set_option maxRecDepth 100000 in
theorem w_X6_path_32 {p : Program} {l : Launch} {e : Env} {R : Room} {s : State} {m : MethodId} {args : Array Value} {below : List Frame} {meth : Method} {c : Code} {b : Nat} {D : va_G} {dA : Nat → ClassId} {S0 : AS} {q : RS} (C : hp_C p l e R s m args below meth c b D dA S0 RX6 cX6_path 6 7 38) (hT : ∀ x ∈ c.exceptionTable.toList, False) (hnm : meth.name = "path") (hr : meth.sig.returnType = (some .int)) : ∀ (a0 : Option Nat) (x1 : Int) (x2 : Int) (x3 : Int) (S : AS), inR x1 → inR x2 → inR x3 → f_X6_path_32 a0 x1 x2 x3 S = some q → ∀ ls : Array Slot, hp_L ls 6 [(0, rf b a0), (1, iv x1), (2, iv x2), (3, iv x3)] → hp_J p l e R s m args below meth c b D dA S0 (hp_Q below b D dA S0 1 q args s) S 32 ls [] := by
  have hst : l.stackTraces = false := C.2.2.2.2.2.2.2.2.2.2.1
  intro a0 x1 x2 x3 S hx1 hx2 hx3 h ls hl
  unfold f_X6_path_32 at h
  refine j_iconst C dX6_path_32 ?_
  exact w_X6_path_33 C hT hnm hr _ _ _ _ _ _ hx1 hx2 hx3 (by decide) h ls (hl.sub [0, 1, 2, 3] rfl)
noncomputable def f_X6_path (a0 : Option Nat) (x1 : Int) (x2 : Int) (x3 : Int) (S : AS) : Option RS :=
  (gI S a0 7 1).bind fun v1 =>
  cI (f_X6_isIn x1 v1 S) fun v3 S2 =>
  if v3 = 0 then
    f_X6_path_32 a0 x1 x2 x3 S2
  else
    (gR S2 a0 7 5).bind fun o4 =>
    (aI S2 o4 8 x1).bind fun v5 =>
    cI (f_X6_isIn x2 v5 S2) fun v7 S6 =>
    if v7 = 0 then
      f_X6_path_32 a0 x1 x2 x3 S6
    else
      if x3 < 0 then
        f_X6_path_32 a0 x1 x2 x3 S6
      else
        f_X6_path_33 a0 x1 x2 x3 1 S6
set_option maxHeartbeats 4000000 in
set_option maxRecDepth 100000 in
theorem m_X6_path {l : Launch} {b : Nat} {D : va_G} {dA : Nat → ClassId} (hst : l.stackTraces = false) {a0 : Option Nat} {x1 : Int} {x2 : Int} {x3 : Int} {S : AS} {q : RS} (hx1 : inR x1) (hx2 : inR x2) (hx3 : inR x3) (h : f_X6_path a0 x1 x2 x3 S = some q) : hp_M l b D dA yX6_path cX6_path 6 (some .int) 7 38 [rf b a0, iv x1, iv x2, iv x3] S 1 q := by
  have hcat : ∀ v ∈ ([rf b a0, iv x1, iv x2, iv x3] : List Value), v.category = 1 := (by intro v hv; simp only [List.mem_cons, List.not_mem_nil, or_false] at hv; rcases hv with rfl | rfl | rfl | rfl <;> first | exact cat_iv _ | exact cat_rf _ _)
  refine hp_ofJ (own := RX6) hst (by decide +kernel) rfl hcat (Nat.le_of_ble_eq_true rfl) ?_
  intro p e R s m args below meth c C hT hnm hr ls hl9
  have hl : hp_L ls 6 [(0, rf b a0), (1, iv x1), (2, iv x2), (3, iv x3)] := hp_L.of hl9 hcat
  unfold f_X6_path at h
  refine j_iload_n C dX6_path_0 rfl (hl.at 1 rfl) ?_
  refine j_aload_n C dX6_path_1 rfl (hl.at 0 rfl) ?_
  obtain ⟨v1, g_v1, h⟩ := bd h
  refine j_gI C dX6_path_2 fl_RX6_89 (Or.inl rfl) g_v1 (fun hv1 => ?_)
  rcases cI_some h with ⟨S2, v3, wv3, hc, h⟩ | ⟨hc, hne⟩
  · refine j_callI C (run_S (As := [iv x1, iv v1]) (rest := []) C (m_X6_isIn hst hx1 hv1 hc) cs_RX6_99 rfl hl.1.1 (by decide) (by decide) (by decide) dX6_path_5) (fun hv3 => ?_)
    refine j_if_eq (tgt := 32) C dX6_path_8 (by decide) hv3 (fun b1 => ?_) (fun b1 => ?_)
    · rw [if_pos b1] at h
      exact w_X6_path_32 C hT hnm hr _ _ _ _ _ hx1 hx2 hx3 h ls (hl.sub [0, 1, 2, 3] rfl)
    · rw [if_neg b1] at h
      refine j_iload_n C dX6_path_11 rfl (hl.at 2 rfl) ?_
      refine j_aload_n C dX6_path_12 rfl (hl.at 0 rfl) ?_
      obtain ⟨o4, g_o4, h⟩ := bd h
      refine j_gR C dX6_path_13 fl_RX6_20 rfl g_o4 ?_
      refine j_iload_n C dX6_path_16 rfl (hl.at 1 rfl) ?_
      obtain ⟨v5, g_v5, h⟩ := bd h
      refine j_iald C dX6_path_17 hx1 g_v5 (fun hv5 => ?_)
      rcases cI_some h with ⟨S6, v7, wv7, hc, h⟩ | ⟨hc, hne⟩
      · refine j_callI C (run_S (As := [iv x2, iv v5]) (rest := []) C (m_X6_isIn hst hx2 hv5 hc) cs_RX6_99 rfl hl.1.1 (by decide) (by decide) (by decide) dX6_path_18) (fun hv7 => ?_)
        refine j_if_eq (tgt := 32) C dX6_path_21 (by decide) hv7 (fun b1 => ?_) (fun b1 => ?_)
        · rw [if_pos b1] at h
          exact w_X6_path_32 C hT hnm hr _ _ _ _ _ hx1 hx2 hx3 h ls (hl.sub [0, 1, 2, 3] rfl)
        · rw [if_neg b1] at h
          refine j_iload_n C dX6_path_24 rfl (hl.at 3 rfl) ?_
          refine j_if_lt (tgt := 32) C dX6_path_25 (by decide) hx3 (fun b1 => ?_) (fun b1 => ?_)
          · rw [if_pos b1] at h
            exact w_X6_path_32 C hT hnm hr _ _ _ _ _ hx1 hx2 hx3 h ls (hl.sub [0, 1, 2, 3] rfl)
          · rw [if_neg b1] at h
            refine j_iconst C dX6_path_28 ?_
            refine j_goto (tgt := 33) C dX6_path_29 (by decide) ?_
            exact w_X6_path_33 C hT hnm hr _ _ _ _ _ _ hx1 hx2 hx3 (by decide) h ls (hl.sub [0, 1, 2, 3] rfl)
      · exact j_thrown C hT (run_S (As := [iv x2, iv v5]) (rest := []) C (m_X6_isIn hst hx2 hv5 hc) cs_RX6_99 rfl hl.1.1 (by decide) (by decide) (by decide) dX6_path_18) hne
  · exact j_thrown C hT (run_S (As := [iv x1, iv v1]) (rest := []) C (m_X6_isIn hst hx1 hv1 hc) cs_RX6_99 rfl hl.1.1 (by decide) (by decide) (by decide) dX6_path_5) hne
noncomputable def f_X6_doubled_35 (n : Nat) (a0 : Option Nat) (x1 : Int) (x3 : Int) (x4 : Int) (S : AS) : Option RS := match n with
  | 0 => none
  | n + 1 =>
    (gR S a0 7 7).bind fun o1 =>
    (aI S o1 8 x1).bind fun v2 =>
    if v2 ≤ x4 then
      rI (-1) S
    else
      gd (isK S a0 7) <|
      cI (f_X6_countPins a0 x1 x4 1 S) fun v4 S3 =>
      if v4 ≤ 1 then
        (chk (x4 + 1)).bind fun z6 =>
        f_X6_doubled_35 n a0 x1 x3 z6 S3
      else
        if x3 = 0 then
          rI x4 S3
        else
          (chk (x3 + (-1))).bind fun z7 =>
          (chk (x4 + 1)).bind fun z8 =>
          f_X6_doubled_35 n a0 x1 z7 z8 S3
set_option maxHeartbeats 4000000 in
set_option maxRecDepth 100000 in
theorem w_X6_doubled_35 {p : Program} {l : Launch} {e : Env} {R : Room} {s : State} {m : MethodId} {args : Array Value} {below : List Frame} {meth : Method} {c : Code} {b : Nat} {D : va_G} {dA : Nat → ClassId} {S0 : AS} {q : RS} (C : hp_C p l e R s m args below meth c b D dA S0 RX6 cX6_doubled 5 9 90) (hT : ∀ x ∈ c.exceptionTable.toList, False) (hnm : meth.name = "doubled") (hr : meth.sig.returnType = (some .int)) : ∀ (n : Nat), ∀ (a0 : Option Nat) (x1 : Int) (x3 : Int) (x4 : Int) (S : AS), inR x1 → inR x3 → inR x4 → f_X6_doubled_35 n a0 x1 x3 x4 S = some q → ∀ ls : Array Slot, hp_L ls 5 [(0, rf b a0), (1, iv x1), (3, iv x3), (4, iv x4)] → hp_J p l e R s m args below meth c b D dA S0 (hp_Q below b D dA S0 1 q args s) S 35 ls [] := by
  have hst : l.stackTraces = false := C.2.2.2.2.2.2.2.2.2.2.1
  intro n
  induction n with
  | zero =>
    intro a0 x1 x3 x4 S hx1 hx3 hx4 h
    cases h
  | succ n ih =>
    intro a0 x1 x3 x4 S hx1 hx3 hx4 h ls hl
    unfold f_X6_doubled_35 at h
    refine j_iload C dX6_doubled_35 (hl.at 3 rfl) ?_
    refine j_aload_n C dX6_doubled_37 rfl (hl.at 0 rfl) ?_
    obtain ⟨o1, g_o1, h⟩ := bd h
    refine j_gR C dX6_doubled_38 fl_RX6_26 rfl g_o1 ?_
    refine j_iload_n C dX6_doubled_41 rfl (hl.at 1 rfl) ?_
    obtain ⟨v2, g_v2, h⟩ := bd h
    refine j_iald C dX6_doubled_42 hx1 g_v2 (fun hv2 => ?_)
    refine j_icmp_ge (tgt := 74) C dX6_doubled_43 (by decide) hx4 hv2 (fun b1 => ?_) (fun b1 => ?_)
    · rw [if_pos b1] at h
      refine j_iconst C dX6_doubled_74 ?_
      exact j_iret C dX6_doubled_75 hr (by decide) h
    · rw [if_neg b1] at h
      refine j_aload_n C dX6_doubled_46 rfl (hl.at 0 rfl) ?_
      refine j_iload_n C dX6_doubled_47 rfl (hl.at 1 rfl) ?_
      refine j_iload C dX6_doubled_48 (hl.at 3 rfl) ?_
      refine j_iconst C dX6_doubled_50 ?_
      obtain ⟨c5, h⟩ := gd_some h
      rcases cI_some h with ⟨S3, v4, wv4, hc, h⟩ | ⟨hc, hne⟩
      · refine j_callI C (run_W (As := [iv x1, iv x4, iv 1]) (rest := []) C (m_X6_countPins hst hx1 hx4 (by decide) hc) cv_RX6_135 (by decide) rfl c5 rfl hl (by decide) (by decide) (by decide) dX6_doubled_51) (fun hv4 => ?_)
        refine j_iconst C dX6_doubled_54 ?_
        refine j_icmp_le (tgt := 68) C dX6_doubled_55 (by decide) hv4 (by decide) (fun b1 => ?_) (fun b1 => ?_)
        · rw [if_pos b1] at h
          obtain ⟨z6, g_z6, h⟩ := bd h
          refine k_iinc (k9 := 3) (lv' := [(4, iv z6), (0, rf b a0), (1, iv x1), (3, iv x3)]) C dX6_doubled_68 hl rfl g_z6 (by decide) rfl (fun hz6 ls hl => ?_)
          refine j_goto (tgt := 35) C dX6_doubled_71 (by decide) ?_
          exact ih _ _ _ _ _ hx1 hx3 hz6 h ls (hl.sub [1, 2, 3, 0] rfl)
        · rw [if_neg b1] at h
          refine j_iload_n C dX6_doubled_58 rfl (hl.at 2 rfl) ?_
          refine j_if_ne (tgt := 65) C dX6_doubled_59 (by decide) hx3 (fun b1 => ?_) (fun b1 => ?_)
          · rw [if_neg b1] at h
            obtain ⟨z7, g_z7, h⟩ := bd h
            refine k_iinc (k9 := 2) (lv' := [(3, iv z7), (0, rf b a0), (1, iv x1), (4, iv x4)]) C dX6_doubled_65 hl rfl g_z7 (by decide) rfl (fun hz7 ls hl => ?_)
            obtain ⟨z8, g_z8, h⟩ := bd h
            refine k_iinc (k9 := 3) (lv' := [(4, iv z8), (3, iv z7), (0, rf b a0), (1, iv x1)]) C dX6_doubled_68 hl rfl g_z8 (by decide) rfl (fun hz8 ls hl => ?_)
            refine j_goto (tgt := 35) C dX6_doubled_71 (by decide) ?_
            exact ih _ _ _ _ _ hx1 hz7 hz8 h ls (hl.sub [2, 3, 1, 0] rfl)
          · rw [if_pos (Decidable.byContradiction b1)] at h
            refine j_iload C dX6_doubled_62 (hl.at 3 rfl) ?_
            exact j_iret C dX6_doubled_64 hr hx4 h
      · exact j_thrown C hT (run_W (As := [iv x1, iv x4, iv 1]) (rest := []) C (m_X6_countPins hst hx1 hx4 (by decide) hc) cv_RX6_135 (by decide) rfl c5 rfl hl (by decide) (by decide) (by decide) dX6_doubled_51) hne
noncomputable def f_X6_doubled_21 (a0 : Option Nat) (x1 : Int) (x2 : Int) (t0 : Int) (u1 : Option Nat) (S : AS) : Option RS :=
  gd (isK S u1 7) <|
  cI (f_X6_refused u1 t0 0 S) fun v2 S1 =>
  if v2 = 0 then
    f_X6_doubled_35 FU a0 x1 x2 0 S1
  else
    rI 0 S1
set_option maxHeartbeats 4000000 in
set_option maxRecDepth 100000 in
theorem w_X6_doubled_21 {p : Program} {l : Launch} {e : Env} {R : Room} {s : State} {m : MethodId} {args : Array Value} {below : List Frame} {meth : Method} {c : Code} {b : Nat} {D : va_G} {dA : Nat → ClassId} {S0 : AS} {q : RS} (C : hp_C p l e R s m args below meth c b D dA S0 RX6 cX6_doubled 5 9 90) (hT : ∀ x ∈ c.exceptionTable.toList, False) (hnm : meth.name = "doubled") (hr : meth.sig.returnType = (some .int)) : ∀ (a0 : Option Nat) (x1 : Int) (x2 : Int) (t0 : Int) (u1 : Option Nat) (S : AS), inR x1 → inR x2 → inR t0 → f_X6_doubled_21 a0 x1 x2 t0 u1 S = some q → ∀ ls : Array Slot, hp_L ls 5 [(0, rf b a0), (1, iv x1), (2, iv x2)] → hp_J p l e R s m args below meth c b D dA S0 (hp_Q below b D dA S0 1 q args s) S 21 ls [iv t0, rf b u1] := by
  have hst : l.stackTraces = false := C.2.2.2.2.2.2.2.2.2.2.1
  intro a0 x1 x2 t0 u1 S hx1 hx2 ht0 h ls hl
  unfold f_X6_doubled_21 at h
  refine j_iconst C dX6_doubled_21 ?_
  obtain ⟨c3, h⟩ := gd_some h
  rcases cI_some h with ⟨S1, v2, wv2, hc, h⟩ | ⟨hc, hne⟩
  · refine j_callI C (run_W (As := [iv t0, iv 0]) (rest := []) C (m_X6_refused hst ht0 (by decide) hc) cv_RX6_107 (by decide) rfl c3 rfl hl (by decide) (by decide) (by decide) dX6_doubled_22) (fun hv2 => ?_)
    refine j_if_eq (tgt := 30) C dX6_doubled_25 (by decide) hv2 (fun b1 => ?_) (fun b1 => ?_)
    · rw [if_pos b1] at h
      refine j_iload_n C dX6_doubled_30 rfl (hl.at 2 rfl) ?_
      refine k_istore_n (lv' := [(3, iv x2), (0, rf b a0), (1, iv x1), (2, iv x2)]) C dX6_doubled_31 rfl hl (by decide) rfl (fun ls hl => ?_)
      refine j_iconst C dX6_doubled_32 ?_
      refine k_istore (lv' := [(4, iv 0), (3, iv x2), (0, rf b a0), (1, iv x1), (2, iv x2)]) C dX6_doubled_33 hl (by decide) rfl (fun ls hl => ?_)
      exact w_X6_doubled_35 C hT hnm hr FU _ _ _ _ _ hx1 hx2 (by decide) h ls (hl.sub [2, 3, 1, 0] rfl)
    · rw [if_neg b1] at h
      refine j_iconst C dX6_doubled_28 ?_
      exact j_iret C dX6_doubled_29 hr (by decide) h
  · exact j_thrown C hT (run_W (As := [iv t0, iv 0]) (rest := []) C (m_X6_refused hst ht0 (by decide) hc) cv_RX6_107 (by decide) rfl c3 rfl hl (by decide) (by decide) (by decide) dX6_doubled_22) hne
noncomputable def f_X6_doubled_16 (a0 : Option Nat) (x1 : Int) (x2 : Int) (u0 : Option Nat) (S : AS) : Option RS :=
  f_X6_doubled_21 a0 x1 x2 1 u0 S
set_option maxHeartbeats 4000000 in
set_option maxRecDepth 100000 in
theorem w_X6_doubled_16 {p : Program} {l : Launch} {e : Env} {R : Room} {s : State} {m : MethodId} {args : Array Value} {below : List Frame} {meth : Method} {c : Code} {b : Nat} {D : va_G} {dA : Nat → ClassId} {S0 : AS} {q : RS} (C : hp_C p l e R s m args below meth c b D dA S0 RX6 cX6_doubled 5 9 90) (hT : ∀ x ∈ c.exceptionTable.toList, False) (hnm : meth.name = "doubled") (hr : meth.sig.returnType = (some .int)) : ∀ (a0 : Option Nat) (x1 : Int) (x2 : Int) (u0 : Option Nat) (S : AS), inR x1 → inR x2 → f_X6_doubled_16 a0 x1 x2 u0 S = some q → ∀ ls : Array Slot, hp_L ls 5 [(0, rf b a0), (1, iv x1), (2, iv x2)] → hp_J p l e R s m args below meth c b D dA S0 (hp_Q below b D dA S0 1 q args s) S 16 ls [rf b u0] := by
  have hst : l.stackTraces = false := C.2.2.2.2.2.2.2.2.2.2.1
  intro a0 x1 x2 u0 S hx1 hx2 h ls hl
  unfold f_X6_doubled_16 at h
  refine j_iconst C dX6_doubled_16 ?_
  refine j_goto (tgt := 21) C dX6_doubled_17 (by decide) ?_
  exact w_X6_doubled_21 C hT hnm hr _ _ _ _ _ _ hx1 hx2 (by decide) h ls (hl.sub [0, 1, 2] rfl)
noncomputable def f_X6_doubled (a0 : Option Nat) (x1 : Int) (x2 : Int) (S : AS) : Option RS :=
  (gI S a0 7 1).bind fun v1 =>
  cI (f_X6_isIn x1 v1 S) fun v3 S2 =>
  if v3 = 0 then
    f_X6_doubled_16 a0 x1 x2 a0 S2
  else
    if 0 ≤ x2 then
      f_X6_doubled_21 a0 x1 x2 0 a0 S2
    else
      f_X6_doubled_16 a0 x1 x2 a0 S2
set_option maxHeartbeats 4000000 in
set_option maxRecDepth 100000 in
theorem m_X6_doubled {l : Launch} {b : Nat} {D : va_G} {dA : Nat → ClassId} (hst : l.stackTraces = false) {a0 : Option Nat} {x1 : Int} {x2 : Int} {S : AS} {q : RS} (hx1 : inR x1) (hx2 : inR x2) (h : f_X6_doubled a0 x1 x2 S = some q) : hp_M l b D dA yX6_doubled cX6_doubled 5 (some .int) 9 90 [rf b a0, iv x1, iv x2] S 1 q := by
  have hcat : ∀ v ∈ ([rf b a0, iv x1, iv x2] : List Value), v.category = 1 := (by intro v hv; simp only [List.mem_cons, List.not_mem_nil, or_false] at hv; rcases hv with rfl | rfl | rfl <;> first | exact cat_iv _ | exact cat_rf _ _)
  refine hp_ofJ (own := RX6) hst (by decide +kernel) rfl hcat (Nat.le_of_ble_eq_true rfl) ?_
  intro p e R s m args below meth c C hT hnm hr ls hl9
  have hl : hp_L ls 5 [(0, rf b a0), (1, iv x1), (2, iv x2)] := hp_L.of hl9 hcat
  unfold f_X6_doubled at h
  refine j_aload_n C dX6_doubled_0 rfl (hl.at 0 rfl) ?_
  refine j_iload_n C dX6_doubled_1 rfl (hl.at 1 rfl) ?_
  refine j_aload_n C dX6_doubled_2 rfl (hl.at 0 rfl) ?_
  obtain ⟨v1, g_v1, h⟩ := bd h
  refine j_gI C dX6_doubled_3 fl_RX6_89 (Or.inl rfl) g_v1 (fun hv1 => ?_)
  rcases cI_some h with ⟨S2, v3, wv3, hc, h⟩ | ⟨hc, hne⟩
  · refine j_callI C (run_S (As := [iv x1, iv v1]) (rest := [rf b a0]) C (m_X6_isIn hst hx1 hv1 hc) cs_RX6_99 rfl hl.1.1 (by simp [cat_iv, cat_rf]) (by decide) (by decide) dX6_doubled_6) (fun hv3 => ?_)
    refine j_if_eq (tgt := 16) C dX6_doubled_9 (by decide) hv3 (fun b1 => ?_) (fun b1 => ?_)
    · rw [if_pos b1] at h
      exact w_X6_doubled_16 C hT hnm hr _ _ _ _ _ hx1 hx2 h ls (hl.sub [0, 1, 2] rfl)
    · rw [if_neg b1] at h
      refine j_iload_n C dX6_doubled_12 rfl (hl.at 2 rfl) ?_
      refine j_if_ge (tgt := 20) C dX6_doubled_13 (by decide) hx2 (fun b1 => ?_) (fun b1 => ?_)
      · rw [if_pos b1] at h
        refine j_iconst C dX6_doubled_20 ?_
        exact w_X6_doubled_21 C hT hnm hr _ _ _ _ _ _ hx1 hx2 (by decide) h ls (hl.sub [0, 1, 2] rfl)
      · rw [if_neg b1] at h
        exact w_X6_doubled_16 C hT hnm hr _ _ _ _ _ hx1 hx2 h ls (hl.sub [0, 1, 2] rfl)
  · exact j_thrown C hT (run_S (As := [iv x1, iv v1]) (rest := [rf b a0]) C (m_X6_isIn hst hx1 hv1 hc) cs_RX6_99 rfl hl.1.1 (by simp [cat_iv, cat_rf]) (by decide) (by decide) dX6_doubled_6) hne
noncomputable def f_X6_open_35 (n : Nat) (a0 : Option Nat) (x1 : Int) (x3 : Int) (x4 : Int) (S : AS) : Option RS := match n with
  | 0 => none
  | n + 1 =>
    (gR S a0 7 7).bind fun o1 =>
    (aI S o1 8 x1).bind fun v2 =>
    if v2 ≤ x4 then
      rI (-1) S
    else
      gd (isK S a0 7) <|
      cI (f_X6_countPins a0 x1 x4 0 S) fun v4 S3 =>
      if v4 ≤ 0 then
        (chk (x4 + 1)).bind fun z6 =>
        f_X6_open_35 n a0 x1 x3 z6 S3
      else
        gd (isK S3 a0 7) <|
        cI (f_X6_countPins a0 x1 x4 1 S3) fun v8 S7 =>
        if v8 = 0 then
          if x3 = 0 then
            rI x4 S7
          else
            (chk (x3 + (-1))).bind fun z11 =>
            (chk (x4 + 1)).bind fun z12 =>
            f_X6_open_35 n a0 x1 z11 z12 S7
        else
          (chk (x4 + 1)).bind fun z10 =>
          f_X6_open_35 n a0 x1 x3 z10 S7
set_option maxHeartbeats 4000000 in
set_option maxRecDepth 100000 in
theorem w_X6_open_35 {p : Program} {l : Launch} {e : Env} {R : Room} {s : State} {m : MethodId} {args : Array Value} {below : List Frame} {meth : Method} {c : Code} {b : Nat} {D : va_G} {dA : Nat → ClassId} {S0 : AS} {q : RS} (C : hp_C p l e R s m args below meth c b D dA S0 RX6 cX6_open 5 9 90) (hT : ∀ x ∈ c.exceptionTable.toList, False) (hnm : meth.name = "open") (hr : meth.sig.returnType = (some .int)) : ∀ (n : Nat), ∀ (a0 : Option Nat) (x1 : Int) (x3 : Int) (x4 : Int) (S : AS), inR x1 → inR x3 → inR x4 → f_X6_open_35 n a0 x1 x3 x4 S = some q → ∀ ls : Array Slot, hp_L ls 5 [(0, rf b a0), (1, iv x1), (3, iv x3), (4, iv x4)] → hp_J p l e R s m args below meth c b D dA S0 (hp_Q below b D dA S0 1 q args s) S 35 ls [] := by
  have hst : l.stackTraces = false := C.2.2.2.2.2.2.2.2.2.2.1
  intro n
  induction n with
  | zero =>
    intro a0 x1 x3 x4 S hx1 hx3 hx4 h
    cases h
  | succ n ih =>
    intro a0 x1 x3 x4 S hx1 hx3 hx4 h ls hl
    unfold f_X6_open_35 at h
    refine j_iload C dX6_open_35 (hl.at 3 rfl) ?_
    refine j_aload_n C dX6_open_37 rfl (hl.at 0 rfl) ?_
    obtain ⟨o1, g_o1, h⟩ := bd h
    refine j_gR C dX6_open_38 fl_RX6_26 rfl g_o1 ?_
    refine j_iload_n C dX6_open_41 rfl (hl.at 1 rfl) ?_
    obtain ⟨v2, g_v2, h⟩ := bd h
    refine j_iald C dX6_open_42 hx1 g_v2 (fun hv2 => ?_)
    refine j_icmp_ge (tgt := 84) C dX6_open_43 (by decide) hx4 hv2 (fun b1 => ?_) (fun b1 => ?_)
    · rw [if_pos b1] at h
      refine j_iconst C dX6_open_84 ?_
      exact j_iret C dX6_open_85 hr (by decide) h
    · rw [if_neg b1] at h
      refine j_aload_n C dX6_open_46 rfl (hl.at 0 rfl) ?_
      refine j_iload_n C dX6_open_47 rfl (hl.at 1 rfl) ?_
      refine j_iload C dX6_open_48 (hl.at 3 rfl) ?_
      refine j_iconst C dX6_open_50 ?_
      obtain ⟨c5, h⟩ := gd_some h
      rcases cI_some h with ⟨S3, v4, wv4, hc, h⟩ | ⟨hc, hne⟩
      · refine j_callI C (run_W (As := [iv x1, iv x4, iv 0]) (rest := []) C (m_X6_countPins hst hx1 hx4 (by decide) hc) cv_RX6_135 (by decide) rfl c5 rfl hl (by decide) (by decide) (by decide) dX6_open_51) (fun hv4 => ?_)
        refine j_if_le (tgt := 78) C dX6_open_54 (by decide) hv4 (fun b1 => ?_) (fun b1 => ?_)
        · rw [if_pos b1] at h
          obtain ⟨z6, g_z6, h⟩ := bd h
          refine k_iinc (k9 := 3) (lv' := [(4, iv z6), (0, rf b a0), (1, iv x1), (3, iv x3)]) C dX6_open_78 hl rfl g_z6 (by decide) rfl (fun hz6 ls hl => ?_)
          refine j_goto (tgt := 35) C dX6_open_81 (by decide) ?_
          exact ih _ _ _ _ _ hx1 hx3 hz6 h ls (hl.sub [1, 2, 3, 0] rfl)
        · rw [if_neg b1] at h
          refine j_aload_n C dX6_open_57 rfl (hl.at 0 rfl) ?_
          refine j_iload_n C dX6_open_58 rfl (hl.at 1 rfl) ?_
          refine j_iload C dX6_open_59 (hl.at 3 rfl) ?_
          refine j_iconst C dX6_open_61 ?_
          obtain ⟨c9, h⟩ := gd_some h
          rcases cI_some h with ⟨S7, v8, wv8, hc, h⟩ | ⟨hc, hne⟩
          · refine j_callI C (run_W (As := [iv x1, iv x4, iv 1]) (rest := []) C (m_X6_countPins hst hx1 hx4 (by decide) hc) cv_RX6_135 (by decide) rfl c9 rfl hl (by decide) (by decide) (by decide) dX6_open_62) (fun hv8 => ?_)
            refine j_if_ne (tgt := 78) C dX6_open_65 (by decide) hv8 (fun b1 => ?_) (fun b1 => ?_)
            · rw [if_neg b1] at h
              obtain ⟨z10, g_z10, h⟩ := bd h
              refine k_iinc (k9 := 3) (lv' := [(4, iv z10), (0, rf b a0), (1, iv x1), (3, iv x3)]) C dX6_open_78 hl rfl g_z10 (by decide) rfl (fun hz10 ls hl => ?_)
              refine j_goto (tgt := 35) C dX6_open_81 (by decide) ?_
              exact ih _ _ _ _ _ hx1 hx3 hz10 h ls (hl.sub [1, 2, 3, 0] rfl)
            · rw [if_pos (Decidable.byContradiction b1)] at h
              refine j_iload_n C dX6_open_68 rfl (hl.at 2 rfl) ?_
              refine j_if_ne (tgt := 75) C dX6_open_69 (by decide) hx3 (fun b1 => ?_) (fun b1 => ?_)
              · rw [if_neg b1] at h
                obtain ⟨z11, g_z11, h⟩ := bd h
                refine k_iinc (k9 := 2) (lv' := [(3, iv z11), (0, rf b a0), (1, iv x1), (4, iv x4)]) C dX6_open_75 hl rfl g_z11 (by decide) rfl (fun hz11 ls hl => ?_)
                obtain ⟨z12, g_z12, h⟩ := bd h
                refine k_iinc (k9 := 3) (lv' := [(4, iv z12), (3, iv z11), (0, rf b a0), (1, iv x1)]) C dX6_open_78 hl rfl g_z12 (by decide) rfl (fun hz12 ls hl => ?_)
                refine j_goto (tgt := 35) C dX6_open_81 (by decide) ?_
                exact ih _ _ _ _ _ hx1 hz11 hz12 h ls (hl.sub [2, 3, 1, 0] rfl)
              · rw [if_pos (Decidable.byContradiction b1)] at h
                refine j_iload C dX6_open_72 (hl.at 3 rfl) ?_
                exact j_iret C dX6_open_74 hr hx4 h
          · exact j_thrown C hT (run_W (As := [iv x1, iv x4, iv 1]) (rest := []) C (m_X6_countPins hst hx1 hx4 (by decide) hc) cv_RX6_135 (by decide) rfl c9 rfl hl (by decide) (by decide) (by decide) dX6_open_62) hne
      · exact j_thrown C hT (run_W (As := [iv x1, iv x4, iv 0]) (rest := []) C (m_X6_countPins hst hx1 hx4 (by decide) hc) cv_RX6_135 (by decide) rfl c5 rfl hl (by decide) (by decide) (by decide) dX6_open_51) hne
noncomputable def f_X6_open_21 (a0 : Option Nat) (x1 : Int) (x2 : Int) (t0 : Int) (u1 : Option Nat) (S : AS) : Option RS :=
  gd (isK S u1 7) <|
  cI (f_X6_refused u1 t0 0 S) fun v2 S1 =>
  if v2 = 0 then
    f_X6_open_35 FU a0 x1 x2 0 S1
  else
    rI 0 S1
set_option maxHeartbeats 4000000 in
set_option maxRecDepth 100000 in
theorem w_X6_open_21 {p : Program} {l : Launch} {e : Env} {R : Room} {s : State} {m : MethodId} {args : Array Value} {below : List Frame} {meth : Method} {c : Code} {b : Nat} {D : va_G} {dA : Nat → ClassId} {S0 : AS} {q : RS} (C : hp_C p l e R s m args below meth c b D dA S0 RX6 cX6_open 5 9 90) (hT : ∀ x ∈ c.exceptionTable.toList, False) (hnm : meth.name = "open") (hr : meth.sig.returnType = (some .int)) : ∀ (a0 : Option Nat) (x1 : Int) (x2 : Int) (t0 : Int) (u1 : Option Nat) (S : AS), inR x1 → inR x2 → inR t0 → f_X6_open_21 a0 x1 x2 t0 u1 S = some q → ∀ ls : Array Slot, hp_L ls 5 [(0, rf b a0), (1, iv x1), (2, iv x2)] → hp_J p l e R s m args below meth c b D dA S0 (hp_Q below b D dA S0 1 q args s) S 21 ls [iv t0, rf b u1] := by
  have hst : l.stackTraces = false := C.2.2.2.2.2.2.2.2.2.2.1
  intro a0 x1 x2 t0 u1 S hx1 hx2 ht0 h ls hl
  unfold f_X6_open_21 at h
  refine j_iconst C dX6_open_21 ?_
  obtain ⟨c3, h⟩ := gd_some h
  rcases cI_some h with ⟨S1, v2, wv2, hc, h⟩ | ⟨hc, hne⟩
  · refine j_callI C (run_W (As := [iv t0, iv 0]) (rest := []) C (m_X6_refused hst ht0 (by decide) hc) cv_RX6_107 (by decide) rfl c3 rfl hl (by decide) (by decide) (by decide) dX6_open_22) (fun hv2 => ?_)
    refine j_if_eq (tgt := 30) C dX6_open_25 (by decide) hv2 (fun b1 => ?_) (fun b1 => ?_)
    · rw [if_pos b1] at h
      refine j_iload_n C dX6_open_30 rfl (hl.at 2 rfl) ?_
      refine k_istore_n (lv' := [(3, iv x2), (0, rf b a0), (1, iv x1), (2, iv x2)]) C dX6_open_31 rfl hl (by decide) rfl (fun ls hl => ?_)
      refine j_iconst C dX6_open_32 ?_
      refine k_istore (lv' := [(4, iv 0), (3, iv x2), (0, rf b a0), (1, iv x1), (2, iv x2)]) C dX6_open_33 hl (by decide) rfl (fun ls hl => ?_)
      exact w_X6_open_35 C hT hnm hr FU _ _ _ _ _ hx1 hx2 (by decide) h ls (hl.sub [2, 3, 1, 0] rfl)
    · rw [if_neg b1] at h
      refine j_iconst C dX6_open_28 ?_
      exact j_iret C dX6_open_29 hr (by decide) h
  · exact j_thrown C hT (run_W (As := [iv t0, iv 0]) (rest := []) C (m_X6_refused hst ht0 (by decide) hc) cv_RX6_107 (by decide) rfl c3 rfl hl (by decide) (by decide) (by decide) dX6_open_22) hne
noncomputable def f_X6_open_16 (a0 : Option Nat) (x1 : Int) (x2 : Int) (u0 : Option Nat) (S : AS) : Option RS :=
  f_X6_open_21 a0 x1 x2 1 u0 S
set_option maxHeartbeats 4000000 in
set_option maxRecDepth 100000 in
theorem w_X6_open_16 {p : Program} {l : Launch} {e : Env} {R : Room} {s : State} {m : MethodId} {args : Array Value} {below : List Frame} {meth : Method} {c : Code} {b : Nat} {D : va_G} {dA : Nat → ClassId} {S0 : AS} {q : RS} (C : hp_C p l e R s m args below meth c b D dA S0 RX6 cX6_open 5 9 90) (hT : ∀ x ∈ c.exceptionTable.toList, False) (hnm : meth.name = "open") (hr : meth.sig.returnType = (some .int)) : ∀ (a0 : Option Nat) (x1 : Int) (x2 : Int) (u0 : Option Nat) (S : AS), inR x1 → inR x2 → f_X6_open_16 a0 x1 x2 u0 S = some q → ∀ ls : Array Slot, hp_L ls 5 [(0, rf b a0), (1, iv x1), (2, iv x2)] → hp_J p l e R s m args below meth c b D dA S0 (hp_Q below b D dA S0 1 q args s) S 16 ls [rf b u0] := by
  have hst : l.stackTraces = false := C.2.2.2.2.2.2.2.2.2.2.1
  intro a0 x1 x2 u0 S hx1 hx2 h ls hl
  unfold f_X6_open_16 at h
  refine j_iconst C dX6_open_16 ?_
  refine j_goto (tgt := 21) C dX6_open_17 (by decide) ?_
  exact w_X6_open_21 C hT hnm hr _ _ _ _ _ _ hx1 hx2 (by decide) h ls (hl.sub [0, 1, 2] rfl)
noncomputable def f_X6_open (a0 : Option Nat) (x1 : Int) (x2 : Int) (S : AS) : Option RS :=
  (gI S a0 7 1).bind fun v1 =>
  cI (f_X6_isIn x1 v1 S) fun v3 S2 =>
  if v3 = 0 then
    f_X6_open_16 a0 x1 x2 a0 S2
  else
    if 0 ≤ x2 then
      f_X6_open_21 a0 x1 x2 0 a0 S2
    else
      f_X6_open_16 a0 x1 x2 a0 S2
set_option maxHeartbeats 4000000 in
set_option maxRecDepth 100000 in
theorem m_X6_open {l : Launch} {b : Nat} {D : va_G} {dA : Nat → ClassId} (hst : l.stackTraces = false) {a0 : Option Nat} {x1 : Int} {x2 : Int} {S : AS} {q : RS} (hx1 : inR x1) (hx2 : inR x2) (h : f_X6_open a0 x1 x2 S = some q) : hp_M l b D dA yX6_open cX6_open 5 (some .int) 9 90 [rf b a0, iv x1, iv x2] S 1 q := by
  have hcat : ∀ v ∈ ([rf b a0, iv x1, iv x2] : List Value), v.category = 1 := (by intro v hv; simp only [List.mem_cons, List.not_mem_nil, or_false] at hv; rcases hv with rfl | rfl | rfl <;> first | exact cat_iv _ | exact cat_rf _ _)
  refine hp_ofJ (own := RX6) hst (by decide +kernel) rfl hcat (Nat.le_of_ble_eq_true rfl) ?_
  intro p e R s m args below meth c C hT hnm hr ls hl9
  have hl : hp_L ls 5 [(0, rf b a0), (1, iv x1), (2, iv x2)] := hp_L.of hl9 hcat
  unfold f_X6_open at h
  refine j_aload_n C dX6_open_0 rfl (hl.at 0 rfl) ?_
  refine j_iload_n C dX6_open_1 rfl (hl.at 1 rfl) ?_
  refine j_aload_n C dX6_open_2 rfl (hl.at 0 rfl) ?_
  obtain ⟨v1, g_v1, h⟩ := bd h
  refine j_gI C dX6_open_3 fl_RX6_89 (Or.inl rfl) g_v1 (fun hv1 => ?_)
  rcases cI_some h with ⟨S2, v3, wv3, hc, h⟩ | ⟨hc, hne⟩
  · refine j_callI C (run_S (As := [iv x1, iv v1]) (rest := [rf b a0]) C (m_X6_isIn hst hx1 hv1 hc) cs_RX6_99 rfl hl.1.1 (by simp [cat_iv, cat_rf]) (by decide) (by decide) dX6_open_6) (fun hv3 => ?_)
    refine j_if_eq (tgt := 16) C dX6_open_9 (by decide) hv3 (fun b1 => ?_) (fun b1 => ?_)
    · rw [if_pos b1] at h
      exact w_X6_open_16 C hT hnm hr _ _ _ _ _ hx1 hx2 h ls (hl.sub [0, 1, 2] rfl)
    · rw [if_neg b1] at h
      refine j_iload_n C dX6_open_12 rfl (hl.at 2 rfl) ?_
      refine j_if_ge (tgt := 20) C dX6_open_13 (by decide) hx2 (fun b1 => ?_) (fun b1 => ?_)
      · rw [if_pos b1] at h
        refine j_iconst C dX6_open_20 ?_
        exact w_X6_open_21 C hT hnm hr _ _ _ _ _ _ hx1 hx2 (by decide) h ls (hl.sub [0, 1, 2] rfl)
      · rw [if_neg b1] at h
        exact w_X6_open_16 C hT hnm hr _ _ _ _ _ hx1 hx2 h ls (hl.sub [0, 1, 2] rfl)
  · exact j_thrown C hT (run_S (As := [iv x1, iv v1]) (rest := [rf b a0]) C (m_X6_isIn hst hx1 hv1 hc) cs_RX6_99 rfl hl.1.1 (by simp [cat_iv, cat_rf]) (by decide) (by decide) dX6_open_6) hne
noncomputable def f_X6_looksAlike_242 (n : Nat) (k196 : Option Nat → Int → Int → Int → Int → AS → Option RS) (a0 : Option Nat) (x1 : Int) (x2 : Int) (x3 : Int) (x4 : Int) (x5 : Int) (x6 : Int) (S : AS) : Option RS := match n with
  | 0 => none
  | n + 1 =>
    if x5 ≤ x6 then
      (chk (x4 + 1)).bind fun z1 =>
      k196 a0 x1 x2 x3 z1 S
    else
      if x3 = 0 then
        (chk (x4 + 1)).bind fun z2 =>
        k196 a0 x1 x2 x3 z2 S
      else
        (gR S a0 7 10).bind fun o3 =>
        cI (f_X6_at x1 x4 x6 S) fun v5 S4 =>
        (aI S4 o3 8 v5).bind fun v6 =>
        (gR S4 a0 7 10).bind fun o7 =>
        cI (f_X6_at x2 x4 x6 S4) fun v9 S8 =>
        (aI S8 o7 8 v9).bind fun v10 =>
        if v6 = v10 then
          (chk (x6 + 1)).bind fun z12 =>
          f_X6_looksAlike_242 n k196 a0 x1 x2 1 x4 x5 z12 S8
        else
          (chk (x6 + 1)).bind fun z11 =>
          f_X6_looksAlike_242 n k196 a0 x1 x2 0 x4 x5 z11 S8
set_option maxHeartbeats 4000000 in
set_option maxRecDepth 100000 in
theorem w_X6_looksAlike_242 {p : Program} {l : Launch} {e : Env} {R : Room} {s : State} {m : MethodId} {args : Array Value} {below : List Frame} {meth : Method} {c : Code} {b : Nat} {D : va_G} {dA : Nat → ClassId} {S0 : AS} {q : RS} (C : hp_C p l e R s m args below meth c b D dA S0 RX6 cX6_looksAlike 7 7 39) (hT : ∀ x ∈ c.exceptionTable.toList, False) (hnm : meth.name = "looksAlike") (hr : meth.sig.returnType = (some .boolean)) {k196 : Option Nat → Int → Int → Int → Int → AS → Option RS} (hk196 : ∀ (a0 : Option Nat) (x1 : Int) (x2 : Int) (x3 : Int) (x4 : Int) (S : AS), inR x1 → inR x2 → inR x3 → inR x4 → k196 a0 x1 x2 x3 x4 S = some q → ∀ ls : Array Slot, hp_L ls 7 [(0, rf b a0), (1, iv x1), (2, iv x2), (3, iv x3), (4, iv x4)] → hp_J p l e R s m args below meth c b D dA S0 (hp_Q below b D dA S0 1 q args s) S 196 ls []) : ∀ (n : Nat), ∀ (a0 : Option Nat) (x1 : Int) (x2 : Int) (x3 : Int) (x4 : Int) (x5 : Int) (x6 : Int) (S : AS), inR x1 → inR x2 → inR x3 → inR x4 → inR x5 → inR x6 → f_X6_looksAlike_242 n k196 a0 x1 x2 x3 x4 x5 x6 S = some q → ∀ ls : Array Slot, hp_L ls 7 [(0, rf b a0), (1, iv x1), (2, iv x2), (3, iv x3), (4, iv x4), (5, iv x5), (6, iv x6)] → hp_J p l e R s m args below meth c b D dA S0 (hp_Q below b D dA S0 1 q args s) S 242 ls [] := by
  have hst : l.stackTraces = false := C.2.2.2.2.2.2.2.2.2.2.1
  intro n
  induction n with
  | zero =>
    intro a0 x1 x2 x3 x4 x5 x6 S hx1 hx2 hx3 hx4 hx5 hx6 h
    cases h
  | succ n ih =>
    intro a0 x1 x2 x3 x4 x5 x6 S hx1 hx2 hx3 hx4 hx5 hx6 h ls hl
    unfold f_X6_looksAlike_242 at h
    refine j_iload C dX6_looksAlike_242 (hl.at 6 rfl) ?_
    refine j_iload C dX6_looksAlike_244 (hl.at 5 rfl) ?_
    refine j_icmp_ge (tgt := 294) C dX6_looksAlike_246 (by decide) hx6 hx5 (fun b1 => ?_) (fun b1 => ?_)
    · rw [if_pos b1] at h
      obtain ⟨z1, g_z1, h⟩ := bd h
      refine k_iinc (k9 := 4) (lv' := [(4, iv z1), (0, rf b a0), (1, iv x1), (2, iv x2), (3, iv x3), (5, iv x5), (6, iv x6)]) C dX6_looksAlike_294 hl rfl g_z1 (by decide) rfl (fun hz1 ls hl => ?_)
      refine j_goto (tgt := 196) C dX6_looksAlike_297 (by decide) ?_
      exact hk196 _ _ _ _ _ _ hx1 hx2 hx3 hz1 h ls (hl.sub [1, 2, 3, 4, 0] rfl)
    · rw [if_neg b1] at h
      refine j_iload_n C dX6_looksAlike_249 rfl (hl.at 3 rfl) ?_
      refine j_if_eq (tgt := 294) C dX6_looksAlike_250 (by decide) hx3 (fun b1 => ?_) (fun b1 => ?_)
      · rw [if_pos b1] at h
        obtain ⟨z2, g_z2, h⟩ := bd h
        refine k_iinc (k9 := 4) (lv' := [(4, iv z2), (0, rf b a0), (1, iv x1), (2, iv x2), (3, iv x3), (5, iv x5), (6, iv x6)]) C dX6_looksAlike_294 hl rfl g_z2 (by decide) rfl (fun hz2 ls hl => ?_)
        refine j_goto (tgt := 196) C dX6_looksAlike_297 (by decide) ?_
        exact hk196 _ _ _ _ _ _ hx1 hx2 hx3 hz2 h ls (hl.sub [1, 2, 3, 4, 0] rfl)
      · rw [if_neg b1] at h
        refine j_aload_n C dX6_looksAlike_253 rfl (hl.at 0 rfl) ?_
        obtain ⟨o3, g_o3, h⟩ := bd h
        refine j_gR C dX6_looksAlike_254 fl_RX6_33 rfl g_o3 ?_
        refine j_iload_n C dX6_looksAlike_257 rfl (hl.at 1 rfl) ?_
        refine j_iload C dX6_looksAlike_258 (hl.at 4 rfl) ?_
        refine j_iload C dX6_looksAlike_260 (hl.at 6 rfl) ?_
        rcases cI_some h with ⟨S4, v5, wv5, hc, h⟩ | ⟨hc, hne⟩
        · refine j_callI C (run_S (As := [iv x1, iv x4, iv x6]) (rest := [rf b o3]) C (m_X6_at hst hx1 hx4 hx6 hc) cs_RX6_125 rfl hl.1.1 (by simp [cat_iv, cat_rf]) (by decide) (by decide) dX6_looksAlike_262) (fun hv5 => ?_)
          obtain ⟨v6, g_v6, h⟩ := bd h
          refine j_iald C dX6_looksAlike_265 hv5 g_v6 (fun hv6 => ?_)
          refine j_aload_n C dX6_looksAlike_266 rfl (hl.at 0 rfl) ?_
          obtain ⟨o7, g_o7, h⟩ := bd h
          refine j_gR C dX6_looksAlike_267 fl_RX6_33 rfl g_o7 ?_
          refine j_iload_n C dX6_looksAlike_270 rfl (hl.at 2 rfl) ?_
          refine j_iload C dX6_looksAlike_271 (hl.at 4 rfl) ?_
          refine j_iload C dX6_looksAlike_273 (hl.at 6 rfl) ?_
          rcases cI_some h with ⟨S8, v9, wv9, hc, h⟩ | ⟨hc, hne⟩
          · refine j_callI C (run_S (As := [iv x2, iv x4, iv x6]) (rest := [rf b o7, iv v6]) C (m_X6_at hst hx2 hx4 hx6 hc) cs_RX6_125 rfl hl.1.1 (by simp [cat_iv, cat_rf]) (by decide) (by decide) dX6_looksAlike_275) (fun hv9 => ?_)
            obtain ⟨v10, g_v10, h⟩ := bd h
            refine j_iald C dX6_looksAlike_278 hv9 g_v10 (fun hv10 => ?_)
            refine j_icmp_ne (tgt := 286) C dX6_looksAlike_279 (by decide) hv6 hv10 (fun b1 => ?_) (fun b1 => ?_)
            · rw [if_neg b1] at h
              refine j_iconst C dX6_looksAlike_286 ?_
              refine k_istore_n (lv' := [(3, iv 0), (0, rf b a0), (1, iv x1), (2, iv x2), (4, iv x4), (5, iv x5), (6, iv x6)]) C dX6_looksAlike_287 rfl hl (by decide) rfl (fun ls hl => ?_)
              obtain ⟨z11, g_z11, h⟩ := bd h
              refine k_iinc (k9 := 6) (lv' := [(6, iv z11), (3, iv 0), (0, rf b a0), (1, iv x1), (2, iv x2), (4, iv x4), (5, iv x5)]) C dX6_looksAlike_288 hl rfl g_z11 (by decide) rfl (fun hz11 ls hl => ?_)
              refine j_goto (tgt := 242) C dX6_looksAlike_291 (by decide) ?_
              exact ih _ _ _ _ _ _ _ _ hx1 hx2 (by decide) hx4 hx5 hz11 h ls (hl.sub [2, 3, 4, 1, 5, 6, 0] rfl)
            · rw [if_pos (Decidable.byContradiction b1)] at h
              refine j_iconst C dX6_looksAlike_282 ?_
              refine j_goto (tgt := 287) C dX6_looksAlike_283 (by decide) ?_
              refine k_istore_n (lv' := [(3, iv 1), (0, rf b a0), (1, iv x1), (2, iv x2), (4, iv x4), (5, iv x5), (6, iv x6)]) C dX6_looksAlike_287 rfl hl (by decide) rfl (fun ls hl => ?_)
              obtain ⟨z12, g_z12, h⟩ := bd h
              refine k_iinc (k9 := 6) (lv' := [(6, iv z12), (3, iv 1), (0, rf b a0), (1, iv x1), (2, iv x2), (4, iv x4), (5, iv x5)]) C dX6_looksAlike_288 hl rfl g_z12 (by decide) rfl (fun hz12 ls hl => ?_)
              refine j_goto (tgt := 242) C dX6_looksAlike_291 (by decide) ?_
              exact ih _ _ _ _ _ _ _ _ hx1 hx2 (by decide) hx4 hx5 hz12 h ls (hl.sub [2, 3, 4, 1, 5, 6, 0] rfl)
          · exact j_thrown C hT (run_S (As := [iv x2, iv x4, iv x6]) (rest := [rf b o7, iv v6]) C (m_X6_at hst hx2 hx4 hx6 hc) cs_RX6_125 rfl hl.1.1 (by simp [cat_iv, cat_rf]) (by decide) (by decide) dX6_looksAlike_275) hne
        · exact j_thrown C hT (run_S (As := [iv x1, iv x4, iv x6]) (rest := [rf b o3]) C (m_X6_at hst hx1 hx4 hx6 hc) cs_RX6_125 rfl hl.1.1 (by simp [cat_iv, cat_rf]) (by decide) (by decide) dX6_looksAlike_262) hne
noncomputable def f_X6_looksAlike_234 (k196 : Option Nat → Int → Int → Int → Int → AS → Option RS) (a0 : Option Nat) (x1 : Int) (x2 : Int) (x3 : Int) (x4 : Int) (t0 : Int) (u1 : Option Nat) (S : AS) : Option RS :=
  gd (isK S u1 7) <|
  cI (f_X6_ownPins u1 t0 S) fun v2 S1 =>
  f_X6_looksAlike_242 FU k196 a0 x1 x2 x3 x4 v2 0 S1
set_option maxHeartbeats 4000000 in
set_option maxRecDepth 100000 in
theorem w_X6_looksAlike_234 {p : Program} {l : Launch} {e : Env} {R : Room} {s : State} {m : MethodId} {args : Array Value} {below : List Frame} {meth : Method} {c : Code} {b : Nat} {D : va_G} {dA : Nat → ClassId} {S0 : AS} {q : RS} (C : hp_C p l e R s m args below meth c b D dA S0 RX6 cX6_looksAlike 7 7 39) (hT : ∀ x ∈ c.exceptionTable.toList, False) (hnm : meth.name = "looksAlike") (hr : meth.sig.returnType = (some .boolean)) {k196 : Option Nat → Int → Int → Int → Int → AS → Option RS} (hk196 : ∀ (a0 : Option Nat) (x1 : Int) (x2 : Int) (x3 : Int) (x4 : Int) (S : AS), inR x1 → inR x2 → inR x3 → inR x4 → k196 a0 x1 x2 x3 x4 S = some q → ∀ ls : Array Slot, hp_L ls 7 [(0, rf b a0), (1, iv x1), (2, iv x2), (3, iv x3), (4, iv x4)] → hp_J p l e R s m args below meth c b D dA S0 (hp_Q below b D dA S0 1 q args s) S 196 ls []) : ∀ (a0 : Option Nat) (x1 : Int) (x2 : Int) (x3 : Int) (x4 : Int) (t0 : Int) (u1 : Option Nat) (S : AS), inR x1 → inR x2 → inR x3 → inR x4 → inR t0 → f_X6_looksAlike_234 k196 a0 x1 x2 x3 x4 t0 u1 S = some q → ∀ ls : Array Slot, hp_L ls 7 [(0, rf b a0), (1, iv x1), (2, iv x2), (3, iv x3), (4, iv x4)] → hp_J p l e R s m args below meth c b D dA S0 (hp_Q below b D dA S0 1 q args s) S 234 ls [iv t0, rf b u1] := by
  have hst : l.stackTraces = false := C.2.2.2.2.2.2.2.2.2.2.1
  intro a0 x1 x2 x3 x4 t0 u1 S hx1 hx2 hx3 hx4 ht0 h ls hl
  unfold f_X6_looksAlike_234 at h
  obtain ⟨c3, h⟩ := gd_some h
  rcases cI_some h with ⟨S1, v2, wv2, hc, h⟩ | ⟨hc, hne⟩
  · refine j_callI C (run_W (As := [iv t0]) (rest := []) C (m_X6_ownPins hst ht0 hc) cv_RX6_117 (by decide) rfl c3 rfl hl (by decide) (by decide) (by decide) dX6_looksAlike_234) (fun hv2 => ?_)
    refine k_istore (lv' := [(5, iv v2), (0, rf b a0), (1, iv x1), (2, iv x2), (3, iv x3), (4, iv x4)]) C dX6_looksAlike_237 hl (by decide) rfl (fun ls hl => ?_)
    refine j_iconst C dX6_looksAlike_239 ?_
    refine k_istore (lv' := [(6, iv 0), (5, iv v2), (0, rf b a0), (1, iv x1), (2, iv x2), (3, iv x3), (4, iv x4)]) C dX6_looksAlike_240 hl (by decide) rfl (fun ls hl => ?_)
    exact w_X6_looksAlike_242 C hT hnm hr hk196 FU _ _ _ _ _ _ _ _ hx1 hx2 hx3 hx4 hv2 (by decide) h ls (hl.sub [2, 3, 4, 5, 6, 1, 0] rfl)
  · exact j_thrown C hT (run_W (As := [iv t0]) (rest := []) C (m_X6_ownPins hst ht0 hc) cv_RX6_117 (by decide) rfl c3 rfl hl (by decide) (by decide) (by decide) dX6_looksAlike_234) hne
noncomputable def f_X6_looksAlike_196 (n : Nat) (a0 : Option Nat) (x1 : Int) (x2 : Int) (x3 : Int) (x4 : Int) (S : AS) : Option RS := match n with
  | 0 => none
  | n + 1 =>
    (gR S a0 7 5).bind fun o1 =>
    (aI S o1 8 x1).bind fun v2 =>
    if v2 ≤ x4 then
      rZ x3 S
    else
      if x3 = 0 then
        rZ x3 S
      else
        if x4 = (-1) then
          f_X6_looksAlike_234 (f_X6_looksAlike_196 n) a0 x1 x2 x3 x4 x1 a0 S
        else
          (gR S a0 7 6).bind fun o3 =>
          (chk (64 * x1)).bind fun z4 =>
          (chk (z4 + x4)).bind fun z5 =>
          (aI S o3 8 z5).bind fun v6 =>
          f_X6_looksAlike_234 (f_X6_looksAlike_196 n) a0 x1 x2 x3 x4 v6 a0 S
set_option maxHeartbeats 4000000 in
set_option maxRecDepth 100000 in
theorem w_X6_looksAlike_196 {p : Program} {l : Launch} {e : Env} {R : Room} {s : State} {m : MethodId} {args : Array Value} {below : List Frame} {meth : Method} {c : Code} {b : Nat} {D : va_G} {dA : Nat → ClassId} {S0 : AS} {q : RS} (C : hp_C p l e R s m args below meth c b D dA S0 RX6 cX6_looksAlike 7 7 39) (hT : ∀ x ∈ c.exceptionTable.toList, False) (hnm : meth.name = "looksAlike") (hr : meth.sig.returnType = (some .boolean)) : ∀ (n : Nat), ∀ (a0 : Option Nat) (x1 : Int) (x2 : Int) (x3 : Int) (x4 : Int) (S : AS), inR x1 → inR x2 → inR x3 → inR x4 → f_X6_looksAlike_196 n a0 x1 x2 x3 x4 S = some q → ∀ ls : Array Slot, hp_L ls 7 [(0, rf b a0), (1, iv x1), (2, iv x2), (3, iv x3), (4, iv x4)] → hp_J p l e R s m args below meth c b D dA S0 (hp_Q below b D dA S0 1 q args s) S 196 ls [] := by
  have hst : l.stackTraces = false := C.2.2.2.2.2.2.2.2.2.2.1
  intro n
  induction n with
  | zero =>
    intro a0 x1 x2 x3 x4 S hx1 hx2 hx3 hx4 h
    cases h
  | succ n ih =>
    intro a0 x1 x2 x3 x4 S hx1 hx2 hx3 hx4 h ls hl
    unfold f_X6_looksAlike_196 at h
    refine j_iload C dX6_looksAlike_196 (hl.at 4 rfl) ?_
    refine j_aload_n C dX6_looksAlike_198 rfl (hl.at 0 rfl) ?_
    obtain ⟨o1, g_o1, h⟩ := bd h
    refine j_gR C dX6_looksAlike_199 fl_RX6_20 rfl g_o1 ?_
    refine j_iload_n C dX6_looksAlike_202 rfl (hl.at 1 rfl) ?_
    obtain ⟨v2, g_v2, h⟩ := bd h
    refine j_iald C dX6_looksAlike_203 hx1 g_v2 (fun hv2 => ?_)
    refine j_icmp_ge (tgt := 300) C dX6_looksAlike_204 (by decide) hx4 hv2 (fun b1 => ?_) (fun b1 => ?_)
    · rw [if_pos b1] at h
      refine j_iload_n C dX6_looksAlike_300 rfl (hl.at 3 rfl) ?_
      exact j_zret C dX6_looksAlike_301 hr h
    · rw [if_neg b1] at h
      refine j_iload_n C dX6_looksAlike_207 rfl (hl.at 3 rfl) ?_
      refine j_if_eq (tgt := 300) C dX6_looksAlike_208 (by decide) hx3 (fun b1 => ?_) (fun b1 => ?_)
      · rw [if_pos b1] at h
        refine j_iload_n C dX6_looksAlike_300 rfl (hl.at 3 rfl) ?_
        exact j_zret C dX6_looksAlike_301 hr h
      · rw [if_neg b1] at h
        refine j_aload_n C dX6_looksAlike_211 rfl (hl.at 0 rfl) ?_
        refine j_iload C dX6_looksAlike_212 (hl.at 4 rfl) ?_
        refine j_iconst C dX6_looksAlike_214 ?_
        refine j_icmp_ne (tgt := 222) C dX6_looksAlike_215 (by decide) hx4 (by decide) (fun b1 => ?_) (fun b1 => ?_)
        · rw [if_neg b1] at h
          refine j_aload_n C dX6_looksAlike_222 rfl (hl.at 0 rfl) ?_
          obtain ⟨o3, g_o3, h⟩ := bd h
          refine j_gR C dX6_looksAlike_223 fl_RX6_23 rfl g_o3 ?_
          refine j_bipush (x := 64) C dX6_looksAlike_226 (by decide) ?_
          refine j_iload_n C dX6_looksAlike_228 rfl (hl.at 1 rfl) ?_
          obtain ⟨z4, g_z4, h⟩ := bd h
          refine j_imul C dX6_looksAlike_229 g_z4 (fun hz4 => ?_)
          refine j_iload C dX6_looksAlike_230 (hl.at 4 rfl) ?_
          obtain ⟨z5, g_z5, h⟩ := bd h
          refine j_iadd C dX6_looksAlike_232 g_z5 (fun hz5 => ?_)
          obtain ⟨v6, g_v6, h⟩ := bd h
          refine j_iald C dX6_looksAlike_233 hz5 g_v6 (fun hv6 => ?_)
          exact w_X6_looksAlike_234 C hT hnm hr ih _ _ _ _ _ _ _ _ hx1 hx2 hx3 hx4 hv6 h ls (hl.sub [0, 1, 2, 3, 4] rfl)
        · rw [if_pos (Decidable.byContradiction b1)] at h
          refine j_iload_n C dX6_looksAlike_218 rfl (hl.at 1 rfl) ?_
          refine j_goto (tgt := 234) C dX6_looksAlike_219 (by decide) ?_
          exact w_X6_looksAlike_234 C hT hnm hr ih _ _ _ _ _ _ _ _ hx1 hx2 hx3 hx4 hx1 h ls (hl.sub [0, 1, 2, 3, 4] rfl)
noncomputable def f_X6_looksAlike_193 (a0 : Option Nat) (x1 : Int) (x2 : Int) (x3 : Int) (S : AS) : Option RS :=
  f_X6_looksAlike_196 FU a0 x1 x2 x3 (-1) S
set_option maxHeartbeats 4000000 in
set_option maxRecDepth 100000 in
theorem w_X6_looksAlike_193 {p : Program} {l : Launch} {e : Env} {R : Room} {s : State} {m : MethodId} {args : Array Value} {below : List Frame} {meth : Method} {c : Code} {b : Nat} {D : va_G} {dA : Nat → ClassId} {S0 : AS} {q : RS} (C : hp_C p l e R s m args below meth c b D dA S0 RX6 cX6_looksAlike 7 7 39) (hT : ∀ x ∈ c.exceptionTable.toList, False) (hnm : meth.name = "looksAlike") (hr : meth.sig.returnType = (some .boolean)) : ∀ (a0 : Option Nat) (x1 : Int) (x2 : Int) (x3 : Int) (S : AS), inR x1 → inR x2 → inR x3 → f_X6_looksAlike_193 a0 x1 x2 x3 S = some q → ∀ ls : Array Slot, hp_L ls 7 [(0, rf b a0), (1, iv x1), (2, iv x2), (3, iv x3)] → hp_J p l e R s m args below meth c b D dA S0 (hp_Q below b D dA S0 1 q args s) S 193 ls [] := by
  have hst : l.stackTraces = false := C.2.2.2.2.2.2.2.2.2.2.1
  intro a0 x1 x2 x3 S hx1 hx2 hx3 h ls hl
  unfold f_X6_looksAlike_193 at h
  refine j_iconst C dX6_looksAlike_193 ?_
  refine k_istore (lv' := [(4, iv (-1)), (0, rf b a0), (1, iv x1), (2, iv x2), (3, iv x3)]) C dX6_looksAlike_194 hl (by decide) rfl (fun ls hl => ?_)
  exact w_X6_looksAlike_196 C hT hnm hr FU _ _ _ _ _ _ hx1 hx2 hx3 (by decide) h ls (hl.sub [1, 2, 3, 4, 0] rfl)
noncomputable def f_X6_looksAlike_138 (n : Nat) (a0 : Option Nat) (x1 : Int) (x2 : Int) (x3 : Int) (x4 : Int) (S : AS) : Option RS := match n with
  | 0 => none
  | n + 1 =>
    (gR S a0 7 5).bind fun o1 =>
    (aI S o1 8 x1).bind fun v2 =>
    if v2 ≤ x4 then
      f_X6_looksAlike_193 a0 x1 x2 x3 S
    else
      if x3 = 0 then
        f_X6_looksAlike_193 a0 x1 x2 x3 S
      else
        (gR S a0 7 25).bind fun o3 =>
        (gR S a0 7 6).bind fun o4 =>
        (chk (64 * x1)).bind fun z5 =>
        (chk (z5 + x4)).bind fun z6 =>
        (aI S o4 8 z6).bind fun v7 =>
        (chk (24 * v7)).bind fun z8 =>
        (gR S a0 7 6).bind fun o9 =>
        (chk (64 * x2)).bind fun z10 =>
        (chk (z10 + x4)).bind fun z11 =>
        (aI S o9 8 z11).bind fun v12 =>
        (chk (z8 + v12)).bind fun z13 =>
        (aI S o3 9 z13).bind fun v14 =>
        (chk (x4 + 1)).bind fun z15 =>
        f_X6_looksAlike_138 n a0 x1 x2 v14 z15 S
set_option maxHeartbeats 4000000 in
set_option maxRecDepth 100000 in
theorem w_X6_looksAlike_138 {p : Program} {l : Launch} {e : Env} {R : Room} {s : State} {m : MethodId} {args : Array Value} {below : List Frame} {meth : Method} {c : Code} {b : Nat} {D : va_G} {dA : Nat → ClassId} {S0 : AS} {q : RS} (C : hp_C p l e R s m args below meth c b D dA S0 RX6 cX6_looksAlike 7 7 39) (hT : ∀ x ∈ c.exceptionTable.toList, False) (hnm : meth.name = "looksAlike") (hr : meth.sig.returnType = (some .boolean)) : ∀ (n : Nat), ∀ (a0 : Option Nat) (x1 : Int) (x2 : Int) (x3 : Int) (x4 : Int) (S : AS), inR x1 → inR x2 → inR x3 → inR x4 → f_X6_looksAlike_138 n a0 x1 x2 x3 x4 S = some q → ∀ ls : Array Slot, hp_L ls 7 [(0, rf b a0), (1, iv x1), (2, iv x2), (3, iv x3), (4, iv x4)] → hp_J p l e R s m args below meth c b D dA S0 (hp_Q below b D dA S0 1 q args s) S 138 ls [] := by
  have hst : l.stackTraces = false := C.2.2.2.2.2.2.2.2.2.2.1
  intro n
  induction n with
  | zero =>
    intro a0 x1 x2 x3 x4 S hx1 hx2 hx3 hx4 h
    cases h
  | succ n ih =>
    intro a0 x1 x2 x3 x4 S hx1 hx2 hx3 hx4 h ls hl
    unfold f_X6_looksAlike_138 at h
    refine j_iload C dX6_looksAlike_138 (hl.at 4 rfl) ?_
    refine j_aload_n C dX6_looksAlike_140 rfl (hl.at 0 rfl) ?_
    obtain ⟨o1, g_o1, h⟩ := bd h
    refine j_gR C dX6_looksAlike_141 fl_RX6_20 rfl g_o1 ?_
    refine j_iload_n C dX6_looksAlike_144 rfl (hl.at 1 rfl) ?_
    obtain ⟨v2, g_v2, h⟩ := bd h
    refine j_iald C dX6_looksAlike_145 hx1 g_v2 (fun hv2 => ?_)
    refine j_icmp_ge (tgt := 193) C dX6_looksAlike_146 (by decide) hx4 hv2 (fun b1 => ?_) (fun b1 => ?_)
    · rw [if_pos b1] at h
      exact w_X6_looksAlike_193 C hT hnm hr _ _ _ _ _ hx1 hx2 hx3 h ls (hl.sub [0, 1, 2, 3] rfl)
    · rw [if_neg b1] at h
      refine j_iload_n C dX6_looksAlike_149 rfl (hl.at 3 rfl) ?_
      refine j_if_eq (tgt := 193) C dX6_looksAlike_150 (by decide) hx3 (fun b1 => ?_) (fun b1 => ?_)
      · rw [if_pos b1] at h
        exact w_X6_looksAlike_193 C hT hnm hr _ _ _ _ _ hx1 hx2 hx3 h ls (hl.sub [0, 1, 2, 3] rfl)
      · rw [if_neg b1] at h
        refine j_aload_n C dX6_looksAlike_153 rfl (hl.at 0 rfl) ?_
        obtain ⟨o3, g_o3, h⟩ := bd h
        refine j_gR C dX6_looksAlike_154 fl_RX6_73 rfl g_o3 ?_
        refine j_bipush (x := 24) C dX6_looksAlike_157 (by decide) ?_
        refine j_aload_n C dX6_looksAlike_159 rfl (hl.at 0 rfl) ?_
        obtain ⟨o4, g_o4, h⟩ := bd h
        refine j_gR C dX6_looksAlike_160 fl_RX6_23 rfl g_o4 ?_
        refine j_bipush (x := 64) C dX6_looksAlike_163 (by decide) ?_
        refine j_iload_n C dX6_looksAlike_165 rfl (hl.at 1 rfl) ?_
        obtain ⟨z5, g_z5, h⟩ := bd h
        refine j_imul C dX6_looksAlike_166 g_z5 (fun hz5 => ?_)
        refine j_iload C dX6_looksAlike_167 (hl.at 4 rfl) ?_
        obtain ⟨z6, g_z6, h⟩ := bd h
        refine j_iadd C dX6_looksAlike_169 g_z6 (fun hz6 => ?_)
        obtain ⟨v7, g_v7, h⟩ := bd h
        refine j_iald C dX6_looksAlike_170 hz6 g_v7 (fun hv7 => ?_)
        obtain ⟨z8, g_z8, h⟩ := bd h
        refine j_imul C dX6_looksAlike_171 g_z8 (fun hz8 => ?_)
        refine j_aload_n C dX6_looksAlike_172 rfl (hl.at 0 rfl) ?_
        obtain ⟨o9, g_o9, h⟩ := bd h
        refine j_gR C dX6_looksAlike_173 fl_RX6_23 rfl g_o9 ?_
        refine j_bipush (x := 64) C dX6_looksAlike_176 (by decide) ?_
        refine j_iload_n C dX6_looksAlike_178 rfl (hl.at 2 rfl) ?_
        obtain ⟨z10, g_z10, h⟩ := bd h
        refine j_imul C dX6_looksAlike_179 g_z10 (fun hz10 => ?_)
        refine j_iload C dX6_looksAlike_180 (hl.at 4 rfl) ?_
        obtain ⟨z11, g_z11, h⟩ := bd h
        refine j_iadd C dX6_looksAlike_182 g_z11 (fun hz11 => ?_)
        obtain ⟨v12, g_v12, h⟩ := bd h
        refine j_iald C dX6_looksAlike_183 hz11 g_v12 (fun hv12 => ?_)
        obtain ⟨z13, g_z13, h⟩ := bd h
        refine j_iadd C dX6_looksAlike_184 g_z13 (fun hz13 => ?_)
        obtain ⟨v14, g_v14, h⟩ := bd h
        refine j_zald C dX6_looksAlike_185 hz13 g_v14 (fun hv14 => ?_)
        refine k_istore_n (lv' := [(3, iv v14), (0, rf b a0), (1, iv x1), (2, iv x2), (4, iv x4)]) C dX6_looksAlike_186 rfl hl (by decide) rfl (fun ls hl => ?_)
        obtain ⟨z15, g_z15, h⟩ := bd h
        refine k_iinc (k9 := 4) (lv' := [(4, iv z15), (3, iv v14), (0, rf b a0), (1, iv x1), (2, iv x2)]) C dX6_looksAlike_187 hl rfl g_z15 (by decide) rfl (fun hz15 ls hl => ?_)
        refine j_goto (tgt := 138) C dX6_looksAlike_190 (by decide) ?_
        exact ih _ _ _ _ _ _ hx1 hx2 hv14 hz15 h ls (hl.sub [2, 3, 4, 1, 0] rfl)
noncomputable def f_X6_looksAlike_135 (a0 : Option Nat) (x1 : Int) (x2 : Int) (x3 : Int) (S : AS) : Option RS :=
  f_X6_looksAlike_138 FU a0 x1 x2 x3 0 S
set_option maxHeartbeats 4000000 in
set_option maxRecDepth 100000 in
theorem w_X6_looksAlike_135 {p : Program} {l : Launch} {e : Env} {R : Room} {s : State} {m : MethodId} {args : Array Value} {below : List Frame} {meth : Method} {c : Code} {b : Nat} {D : va_G} {dA : Nat → ClassId} {S0 : AS} {q : RS} (C : hp_C p l e R s m args below meth c b D dA S0 RX6 cX6_looksAlike 7 7 39) (hT : ∀ x ∈ c.exceptionTable.toList, False) (hnm : meth.name = "looksAlike") (hr : meth.sig.returnType = (some .boolean)) : ∀ (a0 : Option Nat) (x1 : Int) (x2 : Int) (x3 : Int) (S : AS), inR x1 → inR x2 → inR x3 → f_X6_looksAlike_135 a0 x1 x2 x3 S = some q → ∀ ls : Array Slot, hp_L ls 7 [(0, rf b a0), (1, iv x1), (2, iv x2), (3, iv x3)] → hp_J p l e R s m args below meth c b D dA S0 (hp_Q below b D dA S0 1 q args s) S 135 ls [] := by
  have hst : l.stackTraces = false := C.2.2.2.2.2.2.2.2.2.2.1
  intro a0 x1 x2 x3 S hx1 hx2 hx3 h ls hl
  unfold f_X6_looksAlike_135 at h
  refine j_iconst C dX6_looksAlike_135 ?_
  refine k_istore (lv' := [(4, iv 0), (0, rf b a0), (1, iv x1), (2, iv x2), (3, iv x3)]) C dX6_looksAlike_136 hl (by decide) rfl (fun ls hl => ?_)
  exact w_X6_looksAlike_138 C hT hnm hr FU _ _ _ _ _ _ hx1 hx2 hx3 (by decide) h ls (hl.sub [1, 2, 3, 4, 0] rfl)
noncomputable def f_X6_looksAlike_127 (k54 : Option Nat → Int → Int → Int → Int → AS → Option RS) (a0 : Option Nat) (x1 : Int) (x2 : Int) (x4 : Int) (S : AS) : Option RS :=
  (chk (x4 + 1)).bind fun z1 =>
  k54 a0 x1 x2 0 z1 S
set_option maxHeartbeats 4000000 in
set_option maxRecDepth 100000 in
theorem w_X6_looksAlike_127 {p : Program} {l : Launch} {e : Env} {R : Room} {s : State} {m : MethodId} {args : Array Value} {below : List Frame} {meth : Method} {c : Code} {b : Nat} {D : va_G} {dA : Nat → ClassId} {S0 : AS} {q : RS} (C : hp_C p l e R s m args below meth c b D dA S0 RX6 cX6_looksAlike 7 7 39) (hT : ∀ x ∈ c.exceptionTable.toList, False) (hnm : meth.name = "looksAlike") (hr : meth.sig.returnType = (some .boolean)) {k54 : Option Nat → Int → Int → Int → Int → AS → Option RS} (hk54 : ∀ (a0 : Option Nat) (x1 : Int) (x2 : Int) (x3 : Int) (x4 : Int) (S : AS), inR x1 → inR x2 → inR x3 → inR x4 → k54 a0 x1 x2 x3 x4 S = some q → ∀ ls : Array Slot, hp_L ls 7 [(0, rf b a0), (1, iv x1), (2, iv x2), (3, iv x3), (4, iv x4)] → hp_J p l e R s m args below meth c b D dA S0 (hp_Q below b D dA S0 1 q args s) S 54 ls []) : ∀ (a0 : Option Nat) (x1 : Int) (x2 : Int) (x4 : Int) (S : AS), inR x1 → inR x2 → inR x4 → f_X6_looksAlike_127 k54 a0 x1 x2 x4 S = some q → ∀ ls : Array Slot, hp_L ls 7 [(0, rf b a0), (1, iv x1), (2, iv x2), (4, iv x4)] → hp_J p l e R s m args below meth c b D dA S0 (hp_Q below b D dA S0 1 q args s) S 127 ls [] := by
  have hst : l.stackTraces = false := C.2.2.2.2.2.2.2.2.2.2.1
  intro a0 x1 x2 x4 S hx1 hx2 hx4 h ls hl
  unfold f_X6_looksAlike_127 at h
  refine j_iconst C dX6_looksAlike_127 ?_
  refine k_istore_n (lv' := [(3, iv 0), (0, rf b a0), (1, iv x1), (2, iv x2), (4, iv x4)]) C dX6_looksAlike_128 rfl hl (by decide) rfl (fun ls hl => ?_)
  obtain ⟨z1, g_z1, h⟩ := bd h
  refine k_iinc (k9 := 4) (lv' := [(4, iv z1), (3, iv 0), (0, rf b a0), (1, iv x1), (2, iv x2)]) C dX6_looksAlike_129 hl rfl g_z1 (by decide) rfl (fun hz1 ls hl => ?_)
  refine j_goto (tgt := 54) C dX6_looksAlike_132 (by decide) ?_
  exact hk54 _ _ _ _ _ _ hx1 hx2 (by decide) hz1 h ls (hl.sub [2, 3, 4, 1, 0] rfl)
noncomputable def f_X6_looksAlike_54 (n : Nat) (a0 : Option Nat) (x1 : Int) (x2 : Int) (x3 : Int) (x4 : Int) (S : AS) : Option RS := match n with
  | 0 => none
  | n + 1 =>
    (gR S a0 7 2).bind fun o1 =>
    (aI S o1 8 x1).bind fun v2 =>
    if v2 ≤ x4 then
      f_X6_looksAlike_135 a0 x1 x2 x3 S
    else
      if x3 = 0 then
        f_X6_looksAlike_135 a0 x1 x2 x3 S
      else
        (gR S a0 7 3).bind fun o3 =>
        (chk (16 * x1)).bind fun z4 =>
        (chk (z4 + x4)).bind fun z5 =>
        (aI S o3 8 z5).bind fun v6 =>
        (gR S a0 7 3).bind fun o7 =>
        (chk (16 * x2)).bind fun z8 =>
        (chk (z8 + x4)).bind fun z9 =>
        (aI S o7 8 z9).bind fun v10 =>
        if v6 = v10 then
          (gR S a0 7 4).bind fun o11 =>
          (chk (16 * x1)).bind fun z12 =>
          (chk (z12 + x4)).bind fun z13 =>
          (aI S o11 9 z13).bind fun v14 =>
          (gR S a0 7 4).bind fun o15 =>
          (chk (16 * x2)).bind fun z16 =>
          (chk (z16 + x4)).bind fun z17 =>
          (aI S o15 9 z17).bind fun v18 =>
          if v14 = v18 then
            (chk (x4 + 1)).bind fun z19 =>
            f_X6_looksAlike_54 n a0 x1 x2 1 z19 S
          else
            f_X6_looksAlike_127 (f_X6_looksAlike_54 n) a0 x1 x2 x4 S
        else
          f_X6_looksAlike_127 (f_X6_looksAlike_54 n) a0 x1 x2 x4 S
set_option maxHeartbeats 4000000 in
set_option maxRecDepth 100000 in
theorem w_X6_looksAlike_54 {p : Program} {l : Launch} {e : Env} {R : Room} {s : State} {m : MethodId} {args : Array Value} {below : List Frame} {meth : Method} {c : Code} {b : Nat} {D : va_G} {dA : Nat → ClassId} {S0 : AS} {q : RS} (C : hp_C p l e R s m args below meth c b D dA S0 RX6 cX6_looksAlike 7 7 39) (hT : ∀ x ∈ c.exceptionTable.toList, False) (hnm : meth.name = "looksAlike") (hr : meth.sig.returnType = (some .boolean)) : ∀ (n : Nat), ∀ (a0 : Option Nat) (x1 : Int) (x2 : Int) (x3 : Int) (x4 : Int) (S : AS), inR x1 → inR x2 → inR x3 → inR x4 → f_X6_looksAlike_54 n a0 x1 x2 x3 x4 S = some q → ∀ ls : Array Slot, hp_L ls 7 [(0, rf b a0), (1, iv x1), (2, iv x2), (3, iv x3), (4, iv x4)] → hp_J p l e R s m args below meth c b D dA S0 (hp_Q below b D dA S0 1 q args s) S 54 ls [] := by
  have hst : l.stackTraces = false := C.2.2.2.2.2.2.2.2.2.2.1
  intro n
  induction n with
  | zero =>
    intro a0 x1 x2 x3 x4 S hx1 hx2 hx3 hx4 h
    cases h
  | succ n ih =>
    intro a0 x1 x2 x3 x4 S hx1 hx2 hx3 hx4 h ls hl
    unfold f_X6_looksAlike_54 at h
    refine j_iload C dX6_looksAlike_54 (hl.at 4 rfl) ?_
    refine j_aload_n C dX6_looksAlike_56 rfl (hl.at 0 rfl) ?_
    obtain ⟨o1, g_o1, h⟩ := bd h
    refine j_gR C dX6_looksAlike_57 fl_RX6_7 rfl g_o1 ?_
    refine j_iload_n C dX6_looksAlike_60 rfl (hl.at 1 rfl) ?_
    obtain ⟨v2, g_v2, h⟩ := bd h
    refine j_iald C dX6_looksAlike_61 hx1 g_v2 (fun hv2 => ?_)
    refine j_icmp_ge (tgt := 135) C dX6_looksAlike_62 (by decide) hx4 hv2 (fun b1 => ?_) (fun b1 => ?_)
    · rw [if_pos b1] at h
      exact w_X6_looksAlike_135 C hT hnm hr _ _ _ _ _ hx1 hx2 hx3 h ls (hl.sub [0, 1, 2, 3] rfl)
    · rw [if_neg b1] at h
      refine j_iload_n C dX6_looksAlike_65 rfl (hl.at 3 rfl) ?_
      refine j_if_eq (tgt := 135) C dX6_looksAlike_66 (by decide) hx3 (fun b1 => ?_) (fun b1 => ?_)
      · rw [if_pos b1] at h
        exact w_X6_looksAlike_135 C hT hnm hr _ _ _ _ _ hx1 hx2 hx3 h ls (hl.sub [0, 1, 2, 3] rfl)
      · rw [if_neg b1] at h
        refine j_aload_n C dX6_looksAlike_69 rfl (hl.at 0 rfl) ?_
        obtain ⟨o3, g_o3, h⟩ := bd h
        refine j_gR C dX6_looksAlike_70 fl_RX6_13 rfl g_o3 ?_
        refine j_bipush (x := 16) C dX6_looksAlike_73 (by decide) ?_
        refine j_iload_n C dX6_looksAlike_75 rfl (hl.at 1 rfl) ?_
        obtain ⟨z4, g_z4, h⟩ := bd h
        refine j_imul C dX6_looksAlike_76 g_z4 (fun hz4 => ?_)
        refine j_iload C dX6_looksAlike_77 (hl.at 4 rfl) ?_
        obtain ⟨z5, g_z5, h⟩ := bd h
        refine j_iadd C dX6_looksAlike_79 g_z5 (fun hz5 => ?_)
        obtain ⟨v6, g_v6, h⟩ := bd h
        refine j_iald C dX6_looksAlike_80 hz5 g_v6 (fun hv6 => ?_)
        refine j_aload_n C dX6_looksAlike_81 rfl (hl.at 0 rfl) ?_
        obtain ⟨o7, g_o7, h⟩ := bd h
        refine j_gR C dX6_looksAlike_82 fl_RX6_13 rfl g_o7 ?_
        refine j_bipush (x := 16) C dX6_looksAlike_85 (by decide) ?_
        refine j_iload_n C dX6_looksAlike_87 rfl (hl.at 2 rfl) ?_
        obtain ⟨z8, g_z8, h⟩ := bd h
        refine j_imul C dX6_looksAlike_88 g_z8 (fun hz8 => ?_)
        refine j_iload C dX6_looksAlike_89 (hl.at 4 rfl) ?_
        obtain ⟨z9, g_z9, h⟩ := bd h
        refine j_iadd C dX6_looksAlike_91 g_z9 (fun hz9 => ?_)
        obtain ⟨v10, g_v10, h⟩ := bd h
        refine j_iald C dX6_looksAlike_92 hz9 g_v10 (fun hv10 => ?_)
        refine j_icmp_ne (tgt := 127) C dX6_looksAlike_93 (by decide) hv6 hv10 (fun b1 => ?_) (fun b1 => ?_)
        · rw [if_neg b1] at h
          exact w_X6_looksAlike_127 C hT hnm hr ih _ _ _ _ _ hx1 hx2 hx4 h ls (hl.sub [0, 1, 2, 4] rfl)
        · rw [if_pos (Decidable.byContradiction b1)] at h
          refine j_aload_n C dX6_looksAlike_96 rfl (hl.at 0 rfl) ?_
          obtain ⟨o11, g_o11, h⟩ := bd h
          refine j_gR C dX6_looksAlike_97 fl_RX6_16 rfl g_o11 ?_
          refine j_bipush (x := 16) C dX6_looksAlike_100 (by decide) ?_
          refine j_iload_n C dX6_looksAlike_102 rfl (hl.at 1 rfl) ?_
          obtain ⟨z12, g_z12, h⟩ := bd h
          refine j_imul C dX6_looksAlike_103 g_z12 (fun hz12 => ?_)
          refine j_iload C dX6_looksAlike_104 (hl.at 4 rfl) ?_
          obtain ⟨z13, g_z13, h⟩ := bd h
          refine j_iadd C dX6_looksAlike_106 g_z13 (fun hz13 => ?_)
          obtain ⟨v14, g_v14, h⟩ := bd h
          refine j_zald C dX6_looksAlike_107 hz13 g_v14 (fun hv14 => ?_)
          refine j_aload_n C dX6_looksAlike_108 rfl (hl.at 0 rfl) ?_
          obtain ⟨o15, g_o15, h⟩ := bd h
          refine j_gR C dX6_looksAlike_109 fl_RX6_16 rfl g_o15 ?_
          refine j_bipush (x := 16) C dX6_looksAlike_112 (by decide) ?_
          refine j_iload_n C dX6_looksAlike_114 rfl (hl.at 2 rfl) ?_
          obtain ⟨z16, g_z16, h⟩ := bd h
          refine j_imul C dX6_looksAlike_115 g_z16 (fun hz16 => ?_)
          refine j_iload C dX6_looksAlike_116 (hl.at 4 rfl) ?_
          obtain ⟨z17, g_z17, h⟩ := bd h
          refine j_iadd C dX6_looksAlike_118 g_z17 (fun hz17 => ?_)
          obtain ⟨v18, g_v18, h⟩ := bd h
          refine j_zald C dX6_looksAlike_119 hz17 g_v18 (fun hv18 => ?_)
          refine j_icmp_ne (tgt := 127) C dX6_looksAlike_120 (by decide) hv14 hv18 (fun b1 => ?_) (fun b1 => ?_)
          · rw [if_neg b1] at h
            exact w_X6_looksAlike_127 C hT hnm hr ih _ _ _ _ _ hx1 hx2 hx4 h ls (hl.sub [0, 1, 2, 4] rfl)
          · rw [if_pos (Decidable.byContradiction b1)] at h
            refine j_iconst C dX6_looksAlike_123 ?_
            refine j_goto (tgt := 128) C dX6_looksAlike_124 (by decide) ?_
            refine k_istore_n (lv' := [(3, iv 1), (0, rf b a0), (1, iv x1), (2, iv x2), (4, iv x4)]) C dX6_looksAlike_128 rfl hl (by decide) rfl (fun ls hl => ?_)
            obtain ⟨z19, g_z19, h⟩ := bd h
            refine k_iinc (k9 := 4) (lv' := [(4, iv z19), (3, iv 1), (0, rf b a0), (1, iv x1), (2, iv x2)]) C dX6_looksAlike_129 hl rfl g_z19 (by decide) rfl (fun hz19 ls hl => ?_)
            refine j_goto (tgt := 54) C dX6_looksAlike_132 (by decide) ?_
            exact ih _ _ _ _ _ _ hx1 hx2 (by decide) hz19 h ls (hl.sub [2, 3, 4, 1, 0] rfl)
noncomputable def f_X6_looksAlike_50 (a0 : Option Nat) (x1 : Int) (x2 : Int) (t0 : Int) (S : AS) : Option RS :=
  f_X6_looksAlike_54 FU a0 x1 x2 t0 0 S
set_option maxHeartbeats 4000000 in
set_option maxRecDepth 100000 in
theorem w_X6_looksAlike_50 {p : Program} {l : Launch} {e : Env} {R : Room} {s : State} {m : MethodId} {args : Array Value} {below : List Frame} {meth : Method} {c : Code} {b : Nat} {D : va_G} {dA : Nat → ClassId} {S0 : AS} {q : RS} (C : hp_C p l e R s m args below meth c b D dA S0 RX6 cX6_looksAlike 7 7 39) (hT : ∀ x ∈ c.exceptionTable.toList, False) (hnm : meth.name = "looksAlike") (hr : meth.sig.returnType = (some .boolean)) : ∀ (a0 : Option Nat) (x1 : Int) (x2 : Int) (t0 : Int) (S : AS), inR x1 → inR x2 → inR t0 → f_X6_looksAlike_50 a0 x1 x2 t0 S = some q → ∀ ls : Array Slot, hp_L ls 7 [(0, rf b a0), (1, iv x1), (2, iv x2)] → hp_J p l e R s m args below meth c b D dA S0 (hp_Q below b D dA S0 1 q args s) S 50 ls [iv t0] := by
  have hst : l.stackTraces = false := C.2.2.2.2.2.2.2.2.2.2.1
  intro a0 x1 x2 t0 S hx1 hx2 ht0 h ls hl
  unfold f_X6_looksAlike_50 at h
  refine k_istore_n (lv' := [(3, iv t0), (0, rf b a0), (1, iv x1), (2, iv x2)]) C dX6_looksAlike_50 rfl hl (by decide) rfl (fun ls hl => ?_)
  refine j_iconst C dX6_looksAlike_51 ?_
  refine k_istore (lv' := [(4, iv 0), (3, iv t0), (0, rf b a0), (1, iv x1), (2, iv x2)]) C dX6_looksAlike_52 hl (by decide) rfl (fun ls hl => ?_)
  exact w_X6_looksAlike_54 C hT hnm hr FU _ _ _ _ _ _ hx1 hx2 ht0 (by decide) h ls (hl.sub [2, 3, 4, 1, 0] rfl)
noncomputable def f_X6_looksAlike_49 (a0 : Option Nat) (x1 : Int) (x2 : Int) (S : AS) : Option RS :=
  f_X6_looksAlike_50 a0 x1 x2 0 S
set_option maxHeartbeats 4000000 in
set_option maxRecDepth 100000 in
theorem w_X6_looksAlike_49 {p : Program} {l : Launch} {e : Env} {R : Room} {s : State} {m : MethodId} {args : Array Value} {below : List Frame} {meth : Method} {c : Code} {b : Nat} {D : va_G} {dA : Nat → ClassId} {S0 : AS} {q : RS} (C : hp_C p l e R s m args below meth c b D dA S0 RX6 cX6_looksAlike 7 7 39) (hT : ∀ x ∈ c.exceptionTable.toList, False) (hnm : meth.name = "looksAlike") (hr : meth.sig.returnType = (some .boolean)) : ∀ (a0 : Option Nat) (x1 : Int) (x2 : Int) (S : AS), inR x1 → inR x2 → f_X6_looksAlike_49 a0 x1 x2 S = some q → ∀ ls : Array Slot, hp_L ls 7 [(0, rf b a0), (1, iv x1), (2, iv x2)] → hp_J p l e R s m args below meth c b D dA S0 (hp_Q below b D dA S0 1 q args s) S 49 ls [] := by
  have hst : l.stackTraces = false := C.2.2.2.2.2.2.2.2.2.2.1
  intro a0 x1 x2 S hx1 hx2 h ls hl
  unfold f_X6_looksAlike_49 at h
  refine j_iconst C dX6_looksAlike_49 ?_
  exact w_X6_looksAlike_50 C hT hnm hr _ _ _ _ _ hx1 hx2 (by decide) h ls (hl.sub [0, 1, 2] rfl)
noncomputable def f_X6_looksAlike (a0 : Option Nat) (x1 : Int) (x2 : Int) (S : AS) : Option RS :=
  (gR S a0 7 2).bind fun o1 =>
  (aI S o1 8 x1).bind fun v2 =>
  (gR S a0 7 2).bind fun o3 =>
  (aI S o3 8 x2).bind fun v4 =>
  if v2 = v4 then
    (gR S a0 7 5).bind fun o5 =>
    (aI S o5 8 x1).bind fun v6 =>
    (gR S a0 7 5).bind fun o7 =>
    (aI S o7 8 x2).bind fun v8 =>
    if v6 = v8 then
      (gR S a0 7 7).bind fun o9 =>
      (aI S o9 8 x1).bind fun v10 =>
      (gR S a0 7 7).bind fun o11 =>
      (aI S o11 8 x2).bind fun v12 =>
      if v10 = v12 then
        f_X6_looksAlike_50 a0 x1 x2 1 S
      else
        f_X6_looksAlike_49 a0 x1 x2 S
    else
      f_X6_looksAlike_49 a0 x1 x2 S
  else
    f_X6_looksAlike_49 a0 x1 x2 S
set_option maxHeartbeats 4000000 in
set_option maxRecDepth 100000 in
theorem m_X6_looksAlike {l : Launch} {b : Nat} {D : va_G} {dA : Nat → ClassId} (hst : l.stackTraces = false) {a0 : Option Nat} {x1 : Int} {x2 : Int} {S : AS} {q : RS} (hx1 : inR x1) (hx2 : inR x2) (h : f_X6_looksAlike a0 x1 x2 S = some q) : hp_M l b D dA yX6_looksAlike cX6_looksAlike 7 (some .boolean) 7 39 [rf b a0, iv x1, iv x2] S 1 q := by
  have hcat : ∀ v ∈ ([rf b a0, iv x1, iv x2] : List Value), v.category = 1 := (by intro v hv; simp only [List.mem_cons, List.not_mem_nil, or_false] at hv; rcases hv with rfl | rfl | rfl <;> first | exact cat_iv _ | exact cat_rf _ _)
  refine hp_ofJ (own := RX6) hst (by decide +kernel) rfl hcat (Nat.le_of_ble_eq_true rfl) ?_
  intro p e R s m args below meth c C hT hnm hr ls hl9
  have hl : hp_L ls 7 [(0, rf b a0), (1, iv x1), (2, iv x2)] := hp_L.of hl9 hcat
  unfold f_X6_looksAlike at h
  refine j_aload_n C dX6_looksAlike_0 rfl (hl.at 0 rfl) ?_
  obtain ⟨o1, g_o1, h⟩ := bd h
  refine j_gR C dX6_looksAlike_1 fl_RX6_7 rfl g_o1 ?_
  refine j_iload_n C dX6_looksAlike_4 rfl (hl.at 1 rfl) ?_
  obtain ⟨v2, g_v2, h⟩ := bd h
  refine j_iald C dX6_looksAlike_5 hx1 g_v2 (fun hv2 => ?_)
  refine j_aload_n C dX6_looksAlike_6 rfl (hl.at 0 rfl) ?_
  obtain ⟨o3, g_o3, h⟩ := bd h
  refine j_gR C dX6_looksAlike_7 fl_RX6_7 rfl g_o3 ?_
  refine j_iload_n C dX6_looksAlike_10 rfl (hl.at 2 rfl) ?_
  obtain ⟨v4, g_v4, h⟩ := bd h
  refine j_iald C dX6_looksAlike_11 hx2 g_v4 (fun hv4 => ?_)
  refine j_icmp_ne (tgt := 49) C dX6_looksAlike_12 (by decide) hv2 hv4 (fun b1 => ?_) (fun b1 => ?_)
  · rw [if_neg b1] at h
    exact w_X6_looksAlike_49 C hT hnm hr _ _ _ _ hx1 hx2 h ls (hl.sub [0, 1, 2] rfl)
  · rw [if_pos (Decidable.byContradiction b1)] at h
    refine j_aload_n C dX6_looksAlike_15 rfl (hl.at 0 rfl) ?_
    obtain ⟨o5, g_o5, h⟩ := bd h
    refine j_gR C dX6_looksAlike_16 fl_RX6_20 rfl g_o5 ?_
    refine j_iload_n C dX6_looksAlike_19 rfl (hl.at 1 rfl) ?_
    obtain ⟨v6, g_v6, h⟩ := bd h
    refine j_iald C dX6_looksAlike_20 hx1 g_v6 (fun hv6 => ?_)
    refine j_aload_n C dX6_looksAlike_21 rfl (hl.at 0 rfl) ?_
    obtain ⟨o7, g_o7, h⟩ := bd h
    refine j_gR C dX6_looksAlike_22 fl_RX6_20 rfl g_o7 ?_
    refine j_iload_n C dX6_looksAlike_25 rfl (hl.at 2 rfl) ?_
    obtain ⟨v8, g_v8, h⟩ := bd h
    refine j_iald C dX6_looksAlike_26 hx2 g_v8 (fun hv8 => ?_)
    refine j_icmp_ne (tgt := 49) C dX6_looksAlike_27 (by decide) hv6 hv8 (fun b1 => ?_) (fun b1 => ?_)
    · rw [if_neg b1] at h
      exact w_X6_looksAlike_49 C hT hnm hr _ _ _ _ hx1 hx2 h ls (hl.sub [0, 1, 2] rfl)
    · rw [if_pos (Decidable.byContradiction b1)] at h
      refine j_aload_n C dX6_looksAlike_30 rfl (hl.at 0 rfl) ?_
      obtain ⟨o9, g_o9, h⟩ := bd h
      refine j_gR C dX6_looksAlike_31 fl_RX6_26 rfl g_o9 ?_
      refine j_iload_n C dX6_looksAlike_34 rfl (hl.at 1 rfl) ?_
      obtain ⟨v10, g_v10, h⟩ := bd h
      refine j_iald C dX6_looksAlike_35 hx1 g_v10 (fun hv10 => ?_)
      refine j_aload_n C dX6_looksAlike_36 rfl (hl.at 0 rfl) ?_
      obtain ⟨o11, g_o11, h⟩ := bd h
      refine j_gR C dX6_looksAlike_37 fl_RX6_26 rfl g_o11 ?_
      refine j_iload_n C dX6_looksAlike_40 rfl (hl.at 2 rfl) ?_
      obtain ⟨v12, g_v12, h⟩ := bd h
      refine j_iald C dX6_looksAlike_41 hx2 g_v12 (fun hv12 => ?_)
      refine j_icmp_ne (tgt := 49) C dX6_looksAlike_42 (by decide) hv10 hv12 (fun b1 => ?_) (fun b1 => ?_)
      · rw [if_neg b1] at h
        exact w_X6_looksAlike_49 C hT hnm hr _ _ _ _ hx1 hx2 h ls (hl.sub [0, 1, 2] rfl)
      · rw [if_pos (Decidable.byContradiction b1)] at h
        refine j_iconst C dX6_looksAlike_45 ?_
        refine j_goto (tgt := 50) C dX6_looksAlike_46 (by decide) ?_
        exact w_X6_looksAlike_50 C hT hnm hr _ _ _ _ _ hx1 hx2 (by decide) h ls (hl.sub [0, 1, 2] rfl)
noncomputable def f_X6_findAlike_42 (n : Nat) (k24 : Option Nat → Int → AS → Option RS) (k32 : Option Nat → Int → Int → AS → Option RS) (a0 : Option Nat) (x1 : Int) (x2 : Int) (x3 : Int) (S : AS) : Option RS := match n with
  | 0 => none
  | n + 1 =>
    (gI S a0 7 1).bind fun v1 =>
    if v1 ≤ x3 then
      (chk (x2 + 1)).bind fun z2 =>
      k32 a0 x1 z2 S
    else
      (gR S a0 7 25).bind fun o3 =>
      (chk (24 * x2)).bind fun z4 =>
      (chk (z4 + x3)).bind fun z5 =>
      (aI S o3 9 z5).bind fun v6 =>
      if v6 = 0 then
        (chk (x3 + 1)).bind fun z7 =>
        f_X6_findAlike_42 n k24 k32 a0 x1 x2 z7 S
      else
        gd (isK S a0 7) <|
        cI (f_X6_looksAlike a0 x2 x3 S) fun v9 S8 =>
        if v9 = 0 then
          (gR S8 a0 7 25).bind fun o12 =>
          (chk (24 * x2)).bind fun z13 =>
          (chk (z13 + x3)).bind fun z14 =>
          (sZ S8 o12 z14 0).bind fun S15 =>
          (chk (x3 + 1)).bind fun z16 =>
          f_X6_findAlike_42 n k24 k32 a0 1 x2 z16 S15
        else
          (chk (x3 + 1)).bind fun z11 =>
          f_X6_findAlike_42 n k24 k32 a0 x1 x2 z11 S8
set_option maxHeartbeats 4000000 in
set_option maxRecDepth 100000 in
theorem w_X6_findAlike_42 {p : Program} {l : Launch} {e : Env} {R : Room} {s : State} {m : MethodId} {args : Array Value} {below : List Frame} {meth : Method} {c : Code} {b : Nat} {D : va_G} {dA : Nat → ClassId} {S0 : AS} {q : RS} (C : hp_C p l e R s m args below meth c b D dA S0 RX6 cX6_findAlike 4 8 65) (hT : ∀ x ∈ c.exceptionTable.toList, False) (hnm : meth.name = "findAlike") (hr : meth.sig.returnType = none) {k24 : Option Nat → Int → AS → Option RS} (hk24 : ∀ (a0 : Option Nat) (x1 : Int) (S : AS), inR x1 → k24 a0 x1 S = some q → ∀ ls : Array Slot, hp_L ls 4 [(0, rf b a0), (1, iv x1)] → hp_J p l e R s m args below meth c b D dA S0 (hp_Q below b D dA S0 0 q args s) S 24 ls []) {k32 : Option Nat → Int → Int → AS → Option RS} (hk32 : ∀ (a0 : Option Nat) (x1 : Int) (x2 : Int) (S : AS), inR x1 → inR x2 → k32 a0 x1 x2 S = some q → ∀ ls : Array Slot, hp_L ls 4 [(0, rf b a0), (1, iv x1), (2, iv x2)] → hp_J p l e R s m args below meth c b D dA S0 (hp_Q below b D dA S0 0 q args s) S 32 ls []) : ∀ (n : Nat), ∀ (a0 : Option Nat) (x1 : Int) (x2 : Int) (x3 : Int) (S : AS), inR x1 → inR x2 → inR x3 → f_X6_findAlike_42 n k24 k32 a0 x1 x2 x3 S = some q → ∀ ls : Array Slot, hp_L ls 4 [(0, rf b a0), (1, iv x1), (2, iv x2), (3, iv x3)] → hp_J p l e R s m args below meth c b D dA S0 (hp_Q below b D dA S0 0 q args s) S 42 ls [] := by
  have hst : l.stackTraces = false := C.2.2.2.2.2.2.2.2.2.2.1
  intro n
  induction n with
  | zero =>
    intro a0 x1 x2 x3 S hx1 hx2 hx3 h
    cases h
  | succ n ih =>
    intro a0 x1 x2 x3 S hx1 hx2 hx3 h ls hl
    unfold f_X6_findAlike_42 at h
    refine j_iload_n C dX6_findAlike_42 rfl (hl.at 3 rfl) ?_
    refine j_aload_n C dX6_findAlike_43 rfl (hl.at 0 rfl) ?_
    obtain ⟨v1, g_v1, h⟩ := bd h
    refine j_gI C dX6_findAlike_44 fl_RX6_89 (Or.inl rfl) g_v1 (fun hv1 => ?_)
    refine j_icmp_ge (tgt := 93) C dX6_findAlike_47 (by decide) hx3 hv1 (fun b1 => ?_) (fun b1 => ?_)
    · rw [if_pos b1] at h
      obtain ⟨z2, g_z2, h⟩ := bd h
      refine k_iinc (k9 := 2) (lv' := [(2, iv z2), (0, rf b a0), (1, iv x1), (3, iv x3)]) C dX6_findAlike_93 hl rfl g_z2 (by decide) rfl (fun hz2 ls hl => ?_)
      refine j_goto (tgt := 32) C dX6_findAlike_96 (by decide) ?_
      exact hk32 _ _ _ _ hx1 hz2 h ls (hl.sub [1, 2, 0] rfl)
    · rw [if_neg b1] at h
      refine j_aload_n C dX6_findAlike_50 rfl (hl.at 0 rfl) ?_
      obtain ⟨o3, g_o3, h⟩ := bd h
      refine j_gR C dX6_findAlike_51 fl_RX6_73 rfl g_o3 ?_
      refine j_bipush (x := 24) C dX6_findAlike_54 (by decide) ?_
      refine j_iload_n C dX6_findAlike_56 rfl (hl.at 2 rfl) ?_
      obtain ⟨z4, g_z4, h⟩ := bd h
      refine j_imul C dX6_findAlike_57 g_z4 (fun hz4 => ?_)
      refine j_iload_n C dX6_findAlike_58 rfl (hl.at 3 rfl) ?_
      obtain ⟨z5, g_z5, h⟩ := bd h
      refine j_iadd C dX6_findAlike_59 g_z5 (fun hz5 => ?_)
      obtain ⟨v6, g_v6, h⟩ := bd h
      refine j_zald C dX6_findAlike_60 hz5 g_v6 (fun hv6 => ?_)
      refine j_if_eq (tgt := 87) C dX6_findAlike_61 (by decide) hv6 (fun b1 => ?_) (fun b1 => ?_)
      · rw [if_pos b1] at h
        obtain ⟨z7, g_z7, h⟩ := bd h
        refine k_iinc (k9 := 3) (lv' := [(3, iv z7), (0, rf b a0), (1, iv x1), (2, iv x2)]) C dX6_findAlike_87 hl rfl g_z7 (by decide) rfl (fun hz7 ls hl => ?_)
        refine j_goto (tgt := 42) C dX6_findAlike_90 (by decide) ?_
        exact ih _ _ _ _ _ hx1 hx2 hz7 h ls (hl.sub [1, 2, 3, 0] rfl)
      · rw [if_neg b1] at h
        refine j_aload_n C dX6_findAlike_64 rfl (hl.at 0 rfl) ?_
        refine j_iload_n C dX6_findAlike_65 rfl (hl.at 2 rfl) ?_
        refine j_iload_n C dX6_findAlike_66 rfl (hl.at 3 rfl) ?_
        obtain ⟨c10, h⟩ := gd_some h
        rcases cI_some h with ⟨S8, v9, wv9, hc, h⟩ | ⟨hc, hne⟩
        · refine j_callI C (run_W (As := [iv x2, iv x3]) (rest := []) C (m_X6_looksAlike hst hx2 hx3 hc) cv_RX6_167 (by decide) rfl c10 rfl hl (by decide) (by decide) (by decide) dX6_findAlike_67) (fun hv9 => ?_)
          refine j_if_ne (tgt := 87) C dX6_findAlike_70 (by decide) hv9 (fun b1 => ?_) (fun b1 => ?_)
          · rw [if_neg b1] at h
            obtain ⟨z11, g_z11, h⟩ := bd h
            refine k_iinc (k9 := 3) (lv' := [(3, iv z11), (0, rf b a0), (1, iv x1), (2, iv x2)]) C dX6_findAlike_87 hl rfl g_z11 (by decide) rfl (fun hz11 ls hl => ?_)
            refine j_goto (tgt := 42) C dX6_findAlike_90 (by decide) ?_
            exact ih _ _ _ _ _ hx1 hx2 hz11 h ls (hl.sub [1, 2, 3, 0] rfl)
          · rw [if_pos (Decidable.byContradiction b1)] at h
            refine j_aload_n C dX6_findAlike_73 rfl (hl.at 0 rfl) ?_
            obtain ⟨o12, g_o12, h⟩ := bd h
            refine j_gR C dX6_findAlike_74 fl_RX6_73 rfl g_o12 ?_
            refine j_bipush (x := 24) C dX6_findAlike_77 (by decide) ?_
            refine j_iload_n C dX6_findAlike_79 rfl (hl.at 2 rfl) ?_
            obtain ⟨z13, g_z13, h⟩ := bd h
            refine j_imul C dX6_findAlike_80 g_z13 (fun hz13 => ?_)
            refine j_iload_n C dX6_findAlike_81 rfl (hl.at 3 rfl) ?_
            obtain ⟨z14, g_z14, h⟩ := bd h
            refine j_iadd C dX6_findAlike_82 g_z14 (fun hz14 => ?_)
            refine j_iconst C dX6_findAlike_83 ?_
            obtain ⟨S15, g_S15, h⟩ := bd h
            refine j_zast C dX6_findAlike_84 hz14 g_S15 ?_
            refine j_iconst C dX6_findAlike_85 ?_
            refine k_istore_n (lv' := [(1, iv 1), (0, rf b a0), (2, iv x2), (3, iv x3)]) C dX6_findAlike_86 rfl hl (by decide) rfl (fun ls hl => ?_)
            obtain ⟨z16, g_z16, h⟩ := bd h
            refine k_iinc (k9 := 3) (lv' := [(3, iv z16), (1, iv 1), (0, rf b a0), (2, iv x2)]) C dX6_findAlike_87 hl rfl g_z16 (by decide) rfl (fun hz16 ls hl => ?_)
            refine j_goto (tgt := 42) C dX6_findAlike_90 (by decide) ?_
            exact ih _ _ _ _ _ (by decide) hx2 hz16 h ls (hl.sub [2, 1, 3, 0] rfl)
        · exact j_thrown C hT (run_W (As := [iv x2, iv x3]) (rest := []) C (m_X6_looksAlike hst hx2 hx3 hc) cv_RX6_167 (by decide) rfl c10 rfl hl (by decide) (by decide) (by decide) dX6_findAlike_67) hne
noncomputable def f_X6_findAlike_32 (n : Nat) (k24 : Option Nat → Int → AS → Option RS) (a0 : Option Nat) (x1 : Int) (x2 : Int) (S : AS) : Option RS := match n with
  | 0 => none
  | n + 1 =>
    (gI S a0 7 1).bind fun v1 =>
    if v1 ≤ x2 then
      k24 a0 x1 S
    else
      f_X6_findAlike_42 FU k24 (f_X6_findAlike_32 n k24) a0 x1 x2 0 S
set_option maxHeartbeats 4000000 in
set_option maxRecDepth 100000 in
theorem w_X6_findAlike_32 {p : Program} {l : Launch} {e : Env} {R : Room} {s : State} {m : MethodId} {args : Array Value} {below : List Frame} {meth : Method} {c : Code} {b : Nat} {D : va_G} {dA : Nat → ClassId} {S0 : AS} {q : RS} (C : hp_C p l e R s m args below meth c b D dA S0 RX6 cX6_findAlike 4 8 65) (hT : ∀ x ∈ c.exceptionTable.toList, False) (hnm : meth.name = "findAlike") (hr : meth.sig.returnType = none) {k24 : Option Nat → Int → AS → Option RS} (hk24 : ∀ (a0 : Option Nat) (x1 : Int) (S : AS), inR x1 → k24 a0 x1 S = some q → ∀ ls : Array Slot, hp_L ls 4 [(0, rf b a0), (1, iv x1)] → hp_J p l e R s m args below meth c b D dA S0 (hp_Q below b D dA S0 0 q args s) S 24 ls []) : ∀ (n : Nat), ∀ (a0 : Option Nat) (x1 : Int) (x2 : Int) (S : AS), inR x1 → inR x2 → f_X6_findAlike_32 n k24 a0 x1 x2 S = some q → ∀ ls : Array Slot, hp_L ls 4 [(0, rf b a0), (1, iv x1), (2, iv x2)] → hp_J p l e R s m args below meth c b D dA S0 (hp_Q below b D dA S0 0 q args s) S 32 ls [] := by
  have hst : l.stackTraces = false := C.2.2.2.2.2.2.2.2.2.2.1
  intro n
  induction n with
  | zero =>
    intro a0 x1 x2 S hx1 hx2 h
    cases h
  | succ n ih =>
    intro a0 x1 x2 S hx1 hx2 h ls hl
    unfold f_X6_findAlike_32 at h
    refine j_iload_n C dX6_findAlike_32 rfl (hl.at 2 rfl) ?_
    refine j_aload_n C dX6_findAlike_33 rfl (hl.at 0 rfl) ?_
    obtain ⟨v1, g_v1, h⟩ := bd h
    refine j_gI C dX6_findAlike_34 fl_RX6_89 (Or.inl rfl) g_v1 (fun hv1 => ?_)
    refine j_icmp_ge (tgt := 99) C dX6_findAlike_37 (by decide) hx2 hv1 (fun b1 => ?_) (fun b1 => ?_)
    · rw [if_pos b1] at h
      refine j_goto (tgt := 24) C dX6_findAlike_99 (by decide) ?_
      exact hk24 _ _ _ hx1 h ls (hl.sub [0, 1] rfl)
    · rw [if_neg b1] at h
      refine j_iconst C dX6_findAlike_40 ?_
      refine k_istore_n (lv' := [(3, iv 0), (0, rf b a0), (1, iv x1), (2, iv x2)]) C dX6_findAlike_41 rfl hl (by decide) rfl (fun ls hl => ?_)
      exact w_X6_findAlike_42 C hT hnm hr hk24 ih FU _ _ _ _ _ hx1 hx2 (by decide) h ls (hl.sub [1, 2, 3, 0] rfl)
noncomputable def f_X6_findAlike_24 (n : Nat) (a0 : Option Nat) (x1 : Int) (S : AS) : Option RS := match n with
  | 0 => none
  | n + 1 =>
    if x1 = 0 then
      rV S
    else
      f_X6_findAlike_32 FU (f_X6_findAlike_24 n) a0 0 0 S
set_option maxHeartbeats 4000000 in
set_option maxRecDepth 100000 in
theorem w_X6_findAlike_24 {p : Program} {l : Launch} {e : Env} {R : Room} {s : State} {m : MethodId} {args : Array Value} {below : List Frame} {meth : Method} {c : Code} {b : Nat} {D : va_G} {dA : Nat → ClassId} {S0 : AS} {q : RS} (C : hp_C p l e R s m args below meth c b D dA S0 RX6 cX6_findAlike 4 8 65) (hT : ∀ x ∈ c.exceptionTable.toList, False) (hnm : meth.name = "findAlike") (hr : meth.sig.returnType = none) : ∀ (n : Nat), ∀ (a0 : Option Nat) (x1 : Int) (S : AS), inR x1 → f_X6_findAlike_24 n a0 x1 S = some q → ∀ ls : Array Slot, hp_L ls 4 [(0, rf b a0), (1, iv x1)] → hp_J p l e R s m args below meth c b D dA S0 (hp_Q below b D dA S0 0 q args s) S 24 ls [] := by
  have hst : l.stackTraces = false := C.2.2.2.2.2.2.2.2.2.2.1
  intro n
  induction n with
  | zero =>
    intro a0 x1 S hx1 h
    cases h
  | succ n ih =>
    intro a0 x1 S hx1 h ls hl
    unfold f_X6_findAlike_24 at h
    refine j_iload_n C dX6_findAlike_24 rfl (hl.at 1 rfl) ?_
    refine j_if_eq (tgt := 102) C dX6_findAlike_25 (by decide) hx1 (fun b1 => ?_) (fun b1 => ?_)
    · rw [if_pos b1] at h
      exact j_vret C dX6_findAlike_102 hr h
    · rw [if_neg b1] at h
      refine j_iconst C dX6_findAlike_28 ?_
      refine k_istore_n (lv' := [(1, iv 0), (0, rf b a0)]) C dX6_findAlike_29 rfl hl (by decide) rfl (fun ls hl => ?_)
      refine j_iconst C dX6_findAlike_30 ?_
      refine k_istore_n (lv' := [(2, iv 0), (1, iv 0), (0, rf b a0)]) C dX6_findAlike_31 rfl hl (by decide) rfl (fun ls hl => ?_)
      exact w_X6_findAlike_32 C hT hnm hr ih FU _ _ _ _ (by decide) (by decide) h ls (hl.sub [2, 1, 0] rfl)
noncomputable def f_X6_findAlike_2 (n : Nat) (a0 : Option Nat) (x1 : Int) (S : AS) : Option RS := match n with
  | 0 => none
  | n + 1 =>
    if 576 ≤ x1 then
      f_X6_findAlike_24 FU a0 1 S
    else
      (gR S a0 7 25).bind fun o1 =>
      (sZ S o1 x1 1).bind fun S2 =>
      (chk (x1 + 1)).bind fun z3 =>
      f_X6_findAlike_2 n a0 z3 S2
set_option maxHeartbeats 4000000 in
set_option maxRecDepth 100000 in
theorem w_X6_findAlike_2 {p : Program} {l : Launch} {e : Env} {R : Room} {s : State} {m : MethodId} {args : Array Value} {below : List Frame} {meth : Method} {c : Code} {b : Nat} {D : va_G} {dA : Nat → ClassId} {S0 : AS} {q : RS} (C : hp_C p l e R s m args below meth c b D dA S0 RX6 cX6_findAlike 4 8 65) (hT : ∀ x ∈ c.exceptionTable.toList, False) (hnm : meth.name = "findAlike") (hr : meth.sig.returnType = none) : ∀ (n : Nat), ∀ (a0 : Option Nat) (x1 : Int) (S : AS), inR x1 → f_X6_findAlike_2 n a0 x1 S = some q → ∀ ls : Array Slot, hp_L ls 4 [(0, rf b a0), (1, iv x1)] → hp_J p l e R s m args below meth c b D dA S0 (hp_Q below b D dA S0 0 q args s) S 2 ls [] := by
  have hst : l.stackTraces = false := C.2.2.2.2.2.2.2.2.2.2.1
  intro n
  induction n with
  | zero =>
    intro a0 x1 S hx1 h
    cases h
  | succ n ih =>
    intro a0 x1 S hx1 h ls hl
    unfold f_X6_findAlike_2 at h
    refine j_iload_n C dX6_findAlike_2 rfl (hl.at 1 rfl) ?_
    refine j_sipush (x := 576) C dX6_findAlike_3 (by decide) ?_
    refine j_icmp_ge (tgt := 22) C dX6_findAlike_6 (by decide) hx1 (by decide) (fun b1 => ?_) (fun b1 => ?_)
    · rw [if_pos b1] at h
      refine j_iconst C dX6_findAlike_22 ?_
      refine k_istore_n (lv' := [(1, iv 1), (0, rf b a0)]) C dX6_findAlike_23 rfl hl (by decide) rfl (fun ls hl => ?_)
      exact w_X6_findAlike_24 C hT hnm hr FU _ _ _ (by decide) h ls (hl.sub [1, 0] rfl)
    · rw [if_neg b1] at h
      refine j_aload_n C dX6_findAlike_9 rfl (hl.at 0 rfl) ?_
      obtain ⟨o1, g_o1, h⟩ := bd h
      refine j_gR C dX6_findAlike_10 fl_RX6_73 rfl g_o1 ?_
      refine j_iload_n C dX6_findAlike_13 rfl (hl.at 1 rfl) ?_
      refine j_iconst C dX6_findAlike_14 ?_
      obtain ⟨S2, g_S2, h⟩ := bd h
      refine j_zast C dX6_findAlike_15 hx1 g_S2 ?_
      obtain ⟨z3, g_z3, h⟩ := bd h
      refine k_iinc (k9 := 1) (lv' := [(1, iv z3), (0, rf b a0)]) C dX6_findAlike_16 hl rfl g_z3 (by decide) rfl (fun hz3 ls hl => ?_)
      refine j_goto (tgt := 2) C dX6_findAlike_19 (by decide) ?_
      exact ih _ _ _ hz3 h ls (hl.sub [1, 0] rfl)
noncomputable def f_X6_findAlike (a0 : Option Nat) (S : AS) : Option RS :=
  f_X6_findAlike_2 FU a0 0 S
set_option maxHeartbeats 4000000 in
set_option maxRecDepth 100000 in
theorem m_X6_findAlike {l : Launch} {b : Nat} {D : va_G} {dA : Nat → ClassId} (hst : l.stackTraces = false) {a0 : Option Nat} {S : AS} {q : RS} (h : f_X6_findAlike a0 S = some q) : hp_M l b D dA yX6_findAlike cX6_findAlike 4 none 8 65 [rf b a0] S 0 q := by
  have hcat : ∀ v ∈ ([rf b a0] : List Value), v.category = 1 := (by intro v hv; simp only [List.mem_cons, List.not_mem_nil, or_false] at hv; rcases hv with rfl <;> first | exact cat_iv _ | exact cat_rf _ _)
  refine hp_ofJ (own := RX6) hst (by decide +kernel) rfl hcat (Nat.le_of_ble_eq_true rfl) ?_
  intro p e R s m args below meth c C hT hnm hr ls hl9
  have hl : hp_L ls 4 [(0, rf b a0)] := hp_L.of hl9 hcat
  unfold f_X6_findAlike at h
  refine j_iconst C dX6_findAlike_0 ?_
  refine k_istore_n (lv' := [(1, iv 0), (0, rf b a0)]) C dX6_findAlike_1 rfl hl (by decide) rfl (fun ls hl => ?_)
  exact w_X6_findAlike_2 C hT hnm hr FU _ _ _ (by decide) h ls (hl.sub [1, 0] rfl)
noncomputable def f_X6_alike_28 (a0 : Option Nat) (x1 : Int) (x2 : Int) (t0 : Int) (u1 : Option Nat) (S : AS) : Option RS :=
  gd (isK S u1 7) <|
  cI (f_X6_refused u1 t0 0 S) fun v2 S1 =>
  if v2 = 0 then
    gd (isK S1 a0 7) <|
    cV (f_X6_findAlike a0 S1) fun S4 =>
    (gR S4 a0 7 25).bind fun o7 =>
    (chk (24 * x1)).bind fun z8 =>
    (chk (z8 + x2)).bind fun z9 =>
    (aI S4 o7 9 z9).bind fun v10 =>
    rZ v10 S4
  else
    rZ 0 S1
set_option maxHeartbeats 4000000 in
set_option maxRecDepth 100000 in
theorem w_X6_alike_28 {p : Program} {l : Launch} {e : Env} {R : Room} {s : State} {m : MethodId} {args : Array Value} {below : List Frame} {meth : Method} {c : Code} {b : Nat} {D : va_G} {dA : Nat → ClassId} {S0 : AS} {q : RS} (C : hp_C p l e R s m args below meth c b D dA S0 RX6 cX6_alike 3 9 88) (hT : ∀ x ∈ c.exceptionTable.toList, False) (hnm : meth.name = "alike") (hr : meth.sig.returnType = (some .boolean)) : ∀ (a0 : Option Nat) (x1 : Int) (x2 : Int) (t0 : Int) (u1 : Option Nat) (S : AS), inR x1 → inR x2 → inR t0 → f_X6_alike_28 a0 x1 x2 t0 u1 S = some q → ∀ ls : Array Slot, hp_L ls 3 [(0, rf b a0), (1, iv x1), (2, iv x2)] → hp_J p l e R s m args below meth c b D dA S0 (hp_Q below b D dA S0 1 q args s) S 28 ls [iv t0, rf b u1] := by
  have hst : l.stackTraces = false := C.2.2.2.2.2.2.2.2.2.2.1
  intro a0 x1 x2 t0 u1 S hx1 hx2 ht0 h ls hl
  unfold f_X6_alike_28 at h
  refine j_iconst C dX6_alike_28 ?_
  obtain ⟨c3, h⟩ := gd_some h
  rcases cI_some h with ⟨S1, v2, wv2, hc, h⟩ | ⟨hc, hne⟩
  · refine j_callI C (run_W (As := [iv t0, iv 0]) (rest := []) C (m_X6_refused hst ht0 (by decide) hc) cv_RX6_107 (by decide) rfl c3 rfl hl (by decide) (by decide) (by decide) dX6_alike_29) (fun hv2 => ?_)
    refine j_if_eq (tgt := 37) C dX6_alike_32 (by decide) hv2 (fun b1 => ?_) (fun b1 => ?_)
    · rw [if_pos b1] at h
      refine j_aload_n C dX6_alike_37 rfl (hl.at 0 rfl) ?_
      obtain ⟨c6, h⟩ := gd_some h
      rcases cV_some h with ⟨S4, y5, hc, h⟩ | ⟨hc, hne⟩
      · refine j_callV C (run_W (As := []) (rest := []) C (m_X6_findAlike hst hc) cv_RX6_170 (by decide) rfl c6 rfl hl (by decide) (by decide) (by decide) dX6_alike_38) ?_
        refine j_aload_n C dX6_alike_41 rfl (hl.at 0 rfl) ?_
        obtain ⟨o7, g_o7, h⟩ := bd h
        refine j_gR C dX6_alike_42 fl_RX6_73 rfl g_o7 ?_
        refine j_bipush (x := 24) C dX6_alike_45 (by decide) ?_
        refine j_iload_n C dX6_alike_47 rfl (hl.at 1 rfl) ?_
        obtain ⟨z8, g_z8, h⟩ := bd h
        refine j_imul C dX6_alike_48 g_z8 (fun hz8 => ?_)
        refine j_iload_n C dX6_alike_49 rfl (hl.at 2 rfl) ?_
        obtain ⟨z9, g_z9, h⟩ := bd h
        refine j_iadd C dX6_alike_50 g_z9 (fun hz9 => ?_)
        obtain ⟨v10, g_v10, h⟩ := bd h
        refine j_zald C dX6_alike_51 hz9 g_v10 (fun hv10 => ?_)
        exact j_zret C dX6_alike_52 hr h
      · exact j_thrown C hT (run_W (As := []) (rest := []) C (m_X6_findAlike hst hc) cv_RX6_170 (by decide) rfl c6 rfl hl (by decide) (by decide) (by decide) dX6_alike_38) hne
    · rw [if_neg b1] at h
      refine j_iconst C dX6_alike_35 ?_
      exact j_zret C dX6_alike_36 hr h
  · exact j_thrown C hT (run_W (As := [iv t0, iv 0]) (rest := []) C (m_X6_refused hst ht0 (by decide) hc) cv_RX6_107 (by decide) rfl c3 rfl hl (by decide) (by decide) (by decide) dX6_alike_29) hne
noncomputable def f_X6_alike_23 (a0 : Option Nat) (x1 : Int) (x2 : Int) (u0 : Option Nat) (S : AS) : Option RS :=
  f_X6_alike_28 a0 x1 x2 1 u0 S
set_option maxHeartbeats 4000000 in
set_option maxRecDepth 100000 in
theorem w_X6_alike_23 {p : Program} {l : Launch} {e : Env} {R : Room} {s : State} {m : MethodId} {args : Array Value} {below : List Frame} {meth : Method} {c : Code} {b : Nat} {D : va_G} {dA : Nat → ClassId} {S0 : AS} {q : RS} (C : hp_C p l e R s m args below meth c b D dA S0 RX6 cX6_alike 3 9 88) (hT : ∀ x ∈ c.exceptionTable.toList, False) (hnm : meth.name = "alike") (hr : meth.sig.returnType = (some .boolean)) : ∀ (a0 : Option Nat) (x1 : Int) (x2 : Int) (u0 : Option Nat) (S : AS), inR x1 → inR x2 → f_X6_alike_23 a0 x1 x2 u0 S = some q → ∀ ls : Array Slot, hp_L ls 3 [(0, rf b a0), (1, iv x1), (2, iv x2)] → hp_J p l e R s m args below meth c b D dA S0 (hp_Q below b D dA S0 1 q args s) S 23 ls [rf b u0] := by
  have hst : l.stackTraces = false := C.2.2.2.2.2.2.2.2.2.2.1
  intro a0 x1 x2 u0 S hx1 hx2 h ls hl
  unfold f_X6_alike_23 at h
  refine j_iconst C dX6_alike_23 ?_
  refine j_goto (tgt := 28) C dX6_alike_24 (by decide) ?_
  exact w_X6_alike_28 C hT hnm hr _ _ _ _ _ _ hx1 hx2 (by decide) h ls (hl.sub [0, 1, 2] rfl)
noncomputable def f_X6_alike (a0 : Option Nat) (x1 : Int) (x2 : Int) (S : AS) : Option RS :=
  (gI S a0 7 1).bind fun v1 =>
  cI (f_X6_isIn x1 v1 S) fun v3 S2 =>
  if v3 = 0 then
    f_X6_alike_23 a0 x1 x2 a0 S2
  else
    (gI S2 a0 7 1).bind fun v4 =>
    cI (f_X6_isIn x2 v4 S2) fun v6 S5 =>
    if v6 = 0 then
      f_X6_alike_23 a0 x1 x2 a0 S5
    else
      f_X6_alike_28 a0 x1 x2 0 a0 S5
set_option maxHeartbeats 4000000 in
set_option maxRecDepth 100000 in
theorem m_X6_alike {l : Launch} {b : Nat} {D : va_G} {dA : Nat → ClassId} (hst : l.stackTraces = false) {a0 : Option Nat} {x1 : Int} {x2 : Int} {S : AS} {q : RS} (hx1 : inR x1) (hx2 : inR x2) (h : f_X6_alike a0 x1 x2 S = some q) : hp_M l b D dA yX6_alike cX6_alike 3 (some .boolean) 9 88 [rf b a0, iv x1, iv x2] S 1 q := by
  have hcat : ∀ v ∈ ([rf b a0, iv x1, iv x2] : List Value), v.category = 1 := (by intro v hv; simp only [List.mem_cons, List.not_mem_nil, or_false] at hv; rcases hv with rfl | rfl | rfl <;> first | exact cat_iv _ | exact cat_rf _ _)
  refine hp_ofJ (own := RX6) hst (by decide +kernel) rfl hcat (Nat.le_of_ble_eq_true rfl) ?_
  intro p e R s m args below meth c C hT hnm hr ls hl9
  have hl : hp_L ls 3 [(0, rf b a0), (1, iv x1), (2, iv x2)] := hp_L.of hl9 hcat
  unfold f_X6_alike at h
  refine j_aload_n C dX6_alike_0 rfl (hl.at 0 rfl) ?_
  refine j_iload_n C dX6_alike_1 rfl (hl.at 1 rfl) ?_
  refine j_aload_n C dX6_alike_2 rfl (hl.at 0 rfl) ?_
  obtain ⟨v1, g_v1, h⟩ := bd h
  refine j_gI C dX6_alike_3 fl_RX6_89 (Or.inl rfl) g_v1 (fun hv1 => ?_)
  rcases cI_some h with ⟨S2, v3, wv3, hc, h⟩ | ⟨hc, hne⟩
  · refine j_callI C (run_S (As := [iv x1, iv v1]) (rest := [rf b a0]) C (m_X6_isIn hst hx1 hv1 hc) cs_RX6_99 rfl hl.1.1 (by simp [cat_iv, cat_rf]) (by decide) (by decide) dX6_alike_6) (fun hv3 => ?_)
    refine j_if_eq (tgt := 23) C dX6_alike_9 (by decide) hv3 (fun b1 => ?_) (fun b1 => ?_)
    · rw [if_pos b1] at h
      exact w_X6_alike_23 C hT hnm hr _ _ _ _ _ hx1 hx2 h ls (hl.sub [0, 1, 2] rfl)
    · rw [if_neg b1] at h
      refine j_iload_n C dX6_alike_12 rfl (hl.at 2 rfl) ?_
      refine j_aload_n C dX6_alike_13 rfl (hl.at 0 rfl) ?_
      obtain ⟨v4, g_v4, h⟩ := bd h
      refine j_gI C dX6_alike_14 fl_RX6_89 (Or.inl rfl) g_v4 (fun hv4 => ?_)
      rcases cI_some h with ⟨S5, v6, wv6, hc, h⟩ | ⟨hc, hne⟩
      · refine j_callI C (run_S (As := [iv x2, iv v4]) (rest := [rf b a0]) C (m_X6_isIn hst hx2 hv4 hc) cs_RX6_99 rfl hl.1.1 (by simp [cat_iv, cat_rf]) (by decide) (by decide) dX6_alike_17) (fun hv6 => ?_)
        refine j_if_ne (tgt := 27) C dX6_alike_20 (by decide) hv6 (fun b1 => ?_) (fun b1 => ?_)
        · rw [if_neg b1] at h
          refine j_iconst C dX6_alike_27 ?_
          exact w_X6_alike_28 C hT hnm hr _ _ _ _ _ _ hx1 hx2 (by decide) h ls (hl.sub [0, 1, 2] rfl)
        · rw [if_pos (Decidable.byContradiction b1)] at h
          exact w_X6_alike_23 C hT hnm hr _ _ _ _ _ hx1 hx2 h ls (hl.sub [0, 1, 2] rfl)
      · exact j_thrown C hT (run_S (As := [iv x2, iv v4]) (rest := [rf b a0]) C (m_X6_isIn hst hx2 hv4 hc) cs_RX6_99 rfl hl.1.1 (by simp [cat_iv, cat_rf]) (by decide) (by decide) dX6_alike_17) hne
  · exact j_thrown C hT (run_S (As := [iv x1, iv v1]) (rest := [rf b a0]) C (m_X6_isIn hst hx1 hv1 hc) cs_RX6_99 rfl hl.1.1 (by simp [cat_iv, cat_rf]) (by decide) (by decide) dX6_alike_6) hne
noncomputable def f_X6_kinds_55 (k13 : Option Nat → Int → Int → AS → Option RS) (k26 : Option Nat → Int → Int → Int → Int → AS → Option RS) (a0 : Option Nat) (x1 : Int) (x2 : Int) (x4 : Int) (S : AS) : Option RS :=
  (chk (x4 + 1)).bind fun z1 =>
  k26 a0 x1 x2 0 z1 S
set_option maxHeartbeats 4000000 in
set_option maxRecDepth 100000 in
theorem w_X6_kinds_55 {p : Program} {l : Launch} {e : Env} {R : Room} {s : State} {m : MethodId} {args : Array Value} {below : List Frame} {meth : Method} {c : Code} {b : Nat} {D : va_G} {dA : Nat → ClassId} {S0 : AS} {q : RS} (C : hp_C p l e R s m args below meth c b D dA S0 RX6 cX6_kinds 5 9 88) (hT : ∀ x ∈ c.exceptionTable.toList, False) (hnm : meth.name = "kinds") (hr : meth.sig.returnType = (some .int)) {k13 : Option Nat → Int → Int → AS → Option RS} (hk13 : ∀ (a0 : Option Nat) (x1 : Int) (x2 : Int) (S : AS), inR x1 → inR x2 → k13 a0 x1 x2 S = some q → ∀ ls : Array Slot, hp_L ls 5 [(0, rf b a0), (1, iv x1), (2, iv x2)] → hp_J p l e R s m args below meth c b D dA S0 (hp_Q below b D dA S0 1 q args s) S 13 ls []) {k26 : Option Nat → Int → Int → Int → Int → AS → Option RS} (hk26 : ∀ (a0 : Option Nat) (x1 : Int) (x2 : Int) (x3 : Int) (x4 : Int) (S : AS), inR x1 → inR x2 → inR x3 → inR x4 → k26 a0 x1 x2 x3 x4 S = some q → ∀ ls : Array Slot, hp_L ls 5 [(0, rf b a0), (1, iv x1), (2, iv x2), (3, iv x3), (4, iv x4)] → hp_J p l e R s m args below meth c b D dA S0 (hp_Q below b D dA S0 1 q args s) S 26 ls []) : ∀ (a0 : Option Nat) (x1 : Int) (x2 : Int) (x4 : Int) (S : AS), inR x1 → inR x2 → inR x4 → f_X6_kinds_55 k13 k26 a0 x1 x2 x4 S = some q → ∀ ls : Array Slot, hp_L ls 5 [(0, rf b a0), (1, iv x1), (2, iv x2), (4, iv x4)] → hp_J p l e R s m args below meth c b D dA S0 (hp_Q below b D dA S0 1 q args s) S 55 ls [] := by
  have hst : l.stackTraces = false := C.2.2.2.2.2.2.2.2.2.2.1
  intro a0 x1 x2 x4 S hx1 hx2 hx4 h ls hl
  unfold f_X6_kinds_55 at h
  refine j_iconst C dX6_kinds_55 ?_
  refine k_istore_n (lv' := [(3, iv 0), (0, rf b a0), (1, iv x1), (2, iv x2), (4, iv x4)]) C dX6_kinds_56 rfl hl (by decide) rfl (fun ls hl => ?_)
  obtain ⟨z1, g_z1, h⟩ := bd h
  refine k_iinc (k9 := 4) (lv' := [(4, iv z1), (3, iv 0), (0, rf b a0), (1, iv x1), (2, iv x2)]) C dX6_kinds_57 hl rfl g_z1 (by decide) rfl (fun hz1 ls hl => ?_)
  refine j_goto (tgt := 26) C dX6_kinds_60 (by decide) ?_
  exact hk26 _ _ _ _ _ _ hx1 hx2 (by decide) hz1 h ls (hl.sub [2, 3, 4, 1, 0] rfl)
noncomputable def f_X6_kinds_26 (n : Nat) (k13 : Option Nat → Int → Int → AS → Option RS) (a0 : Option Nat) (x1 : Int) (x2 : Int) (x3 : Int) (x4 : Int) (S : AS) : Option RS := match n with
  | 0 => none
  | n + 1 =>
    if x2 ≤ x4 then
      if x3 = 0 then
        (chk (x2 + 1)).bind fun z1 =>
        k13 a0 x1 z1 S
      else
        (chk (x1 + 1)).bind fun z2 =>
        (chk (x2 + 1)).bind fun z3 =>
        k13 a0 z2 z3 S
    else
      if x3 = 0 then
        f_X6_kinds_55 k13 (f_X6_kinds_26 n k13) a0 x1 x2 x4 S
      else
        (gR S a0 7 25).bind fun o4 =>
        (chk (24 * x4)).bind fun z5 =>
        (chk (z5 + x2)).bind fun z6 =>
        (aI S o4 9 z6).bind fun v7 =>
        if v7 = 0 then
          (chk (x4 + 1)).bind fun z8 =>
          f_X6_kinds_26 n k13 a0 x1 x2 1 z8 S
        else
          f_X6_kinds_55 k13 (f_X6_kinds_26 n k13) a0 x1 x2 x4 S
set_option maxHeartbeats 4000000 in
set_option maxRecDepth 100000 in
theorem w_X6_kinds_26 {p : Program} {l : Launch} {e : Env} {R : Room} {s : State} {m : MethodId} {args : Array Value} {below : List Frame} {meth : Method} {c : Code} {b : Nat} {D : va_G} {dA : Nat → ClassId} {S0 : AS} {q : RS} (C : hp_C p l e R s m args below meth c b D dA S0 RX6 cX6_kinds 5 9 88) (hT : ∀ x ∈ c.exceptionTable.toList, False) (hnm : meth.name = "kinds") (hr : meth.sig.returnType = (some .int)) {k13 : Option Nat → Int → Int → AS → Option RS} (hk13 : ∀ (a0 : Option Nat) (x1 : Int) (x2 : Int) (S : AS), inR x1 → inR x2 → k13 a0 x1 x2 S = some q → ∀ ls : Array Slot, hp_L ls 5 [(0, rf b a0), (1, iv x1), (2, iv x2)] → hp_J p l e R s m args below meth c b D dA S0 (hp_Q below b D dA S0 1 q args s) S 13 ls []) : ∀ (n : Nat), ∀ (a0 : Option Nat) (x1 : Int) (x2 : Int) (x3 : Int) (x4 : Int) (S : AS), inR x1 → inR x2 → inR x3 → inR x4 → f_X6_kinds_26 n k13 a0 x1 x2 x3 x4 S = some q → ∀ ls : Array Slot, hp_L ls 5 [(0, rf b a0), (1, iv x1), (2, iv x2), (3, iv x3), (4, iv x4)] → hp_J p l e R s m args below meth c b D dA S0 (hp_Q below b D dA S0 1 q args s) S 26 ls [] := by
  have hst : l.stackTraces = false := C.2.2.2.2.2.2.2.2.2.2.1
  intro n
  induction n with
  | zero =>
    intro a0 x1 x2 x3 x4 S hx1 hx2 hx3 hx4 h
    cases h
  | succ n ih =>
    intro a0 x1 x2 x3 x4 S hx1 hx2 hx3 hx4 h ls hl
    unfold f_X6_kinds_26 at h
    refine j_iload C dX6_kinds_26 (hl.at 4 rfl) ?_
    refine j_iload_n C dX6_kinds_28 rfl (hl.at 2 rfl) ?_
    refine j_icmp_ge (tgt := 63) C dX6_kinds_29 (by decide) hx4 hx2 (fun b1 => ?_) (fun b1 => ?_)
    · rw [if_pos b1] at h
      refine j_iload_n C dX6_kinds_63 rfl (hl.at 3 rfl) ?_
      refine j_if_eq (tgt := 73) C dX6_kinds_64 (by decide) hx3 (fun b1 => ?_) (fun b1 => ?_)
      · rw [if_pos b1] at h
        refine j_iload_n C dX6_kinds_73 rfl (hl.at 1 rfl) ?_
        refine k_istore_n (lv' := [(1, iv x1), (0, rf b a0), (2, iv x2), (3, iv x3), (4, iv x4)]) C dX6_kinds_74 rfl hl (by decide) rfl (fun ls hl => ?_)
        obtain ⟨z1, g_z1, h⟩ := bd h
        refine k_iinc (k9 := 2) (lv' := [(2, iv z1), (1, iv x1), (0, rf b a0), (3, iv x3), (4, iv x4)]) C dX6_kinds_75 hl rfl g_z1 (by decide) rfl (fun hz1 ls hl => ?_)
        refine j_goto (tgt := 13) C dX6_kinds_78 (by decide) ?_
        exact hk13 _ _ _ _ hx1 hz1 h ls (hl.sub [2, 1, 0] rfl)
      · rw [if_neg b1] at h
        refine j_iload_n C dX6_kinds_67 rfl (hl.at 1 rfl) ?_
        refine j_iconst C dX6_kinds_68 ?_
        obtain ⟨z2, g_z2, h⟩ := bd h
        refine j_iadd C dX6_kinds_69 g_z2 (fun hz2 => ?_)
        refine j_goto (tgt := 74) C dX6_kinds_70 (by decide) ?_
        refine k_istore_n (lv' := [(1, iv z2), (0, rf b a0), (2, iv x2), (3, iv x3), (4, iv x4)]) C dX6_kinds_74 rfl hl (by decide) rfl (fun ls hl => ?_)
        obtain ⟨z3, g_z3, h⟩ := bd h
        refine k_iinc (k9 := 2) (lv' := [(2, iv z3), (1, iv z2), (0, rf b a0), (3, iv x3), (4, iv x4)]) C dX6_kinds_75 hl rfl g_z3 (by decide) rfl (fun hz3 ls hl => ?_)
        refine j_goto (tgt := 13) C dX6_kinds_78 (by decide) ?_
        exact hk13 _ _ _ _ hz2 hz3 h ls (hl.sub [2, 1, 0] rfl)
    · rw [if_neg b1] at h
      refine j_iload_n C dX6_kinds_32 rfl (hl.at 3 rfl) ?_
      refine j_if_eq (tgt := 55) C dX6_kinds_33 (by decide) hx3 (fun b1 => ?_) (fun b1 => ?_)
      · rw [if_pos b1] at h
        exact w_X6_kinds_55 C hT hnm hr hk13 ih _ _ _ _ _ hx1 hx2 hx4 h ls (hl.sub [0, 1, 2, 4] rfl)
      · rw [if_neg b1] at h
        refine j_aload_n C dX6_kinds_36 rfl (hl.at 0 rfl) ?_
        obtain ⟨o4, g_o4, h⟩ := bd h
        refine j_gR C dX6_kinds_37 fl_RX6_73 rfl g_o4 ?_
        refine j_bipush (x := 24) C dX6_kinds_40 (by decide) ?_
        refine j_iload C dX6_kinds_42 (hl.at 4 rfl) ?_
        obtain ⟨z5, g_z5, h⟩ := bd h
        refine j_imul C dX6_kinds_44 g_z5 (fun hz5 => ?_)
        refine j_iload_n C dX6_kinds_45 rfl (hl.at 2 rfl) ?_
        obtain ⟨z6, g_z6, h⟩ := bd h
        refine j_iadd C dX6_kinds_46 g_z6 (fun hz6 => ?_)
        obtain ⟨v7, g_v7, h⟩ := bd h
        refine j_zald C dX6_kinds_47 hz6 g_v7 (fun hv7 => ?_)
        refine j_if_ne (tgt := 55) C dX6_kinds_48 (by decide) hv7 (fun b1 => ?_) (fun b1 => ?_)
        · rw [if_neg b1] at h
          exact w_X6_kinds_55 C hT hnm hr hk13 ih _ _ _ _ _ hx1 hx2 hx4 h ls (hl.sub [0, 1, 2, 4] rfl)
        · rw [if_pos (Decidable.byContradiction b1)] at h
          refine j_iconst C dX6_kinds_51 ?_
          refine j_goto (tgt := 56) C dX6_kinds_52 (by decide) ?_
          refine k_istore_n (lv' := [(3, iv 1), (0, rf b a0), (1, iv x1), (2, iv x2), (4, iv x4)]) C dX6_kinds_56 rfl hl (by decide) rfl (fun ls hl => ?_)
          obtain ⟨z8, g_z8, h⟩ := bd h
          refine k_iinc (k9 := 4) (lv' := [(4, iv z8), (3, iv 1), (0, rf b a0), (1, iv x1), (2, iv x2)]) C dX6_kinds_57 hl rfl g_z8 (by decide) rfl (fun hz8 ls hl => ?_)
          refine j_goto (tgt := 26) C dX6_kinds_60 (by decide) ?_
          exact ih _ _ _ _ _ _ hx1 hx2 (by decide) hz8 h ls (hl.sub [2, 3, 4, 1, 0] rfl)
noncomputable def f_X6_kinds_13 (n : Nat) (a0 : Option Nat) (x1 : Int) (x2 : Int) (S : AS) : Option RS := match n with
  | 0 => none
  | n + 1 =>
    (gI S a0 7 1).bind fun v1 =>
    if v1 ≤ x2 then
      rI x1 S
    else
      f_X6_kinds_26 FU (f_X6_kinds_13 n) a0 x1 x2 1 0 S
set_option maxHeartbeats 4000000 in
set_option maxRecDepth 100000 in
theorem w_X6_kinds_13 {p : Program} {l : Launch} {e : Env} {R : Room} {s : State} {m : MethodId} {args : Array Value} {below : List Frame} {meth : Method} {c : Code} {b : Nat} {D : va_G} {dA : Nat → ClassId} {S0 : AS} {q : RS} (C : hp_C p l e R s m args below meth c b D dA S0 RX6 cX6_kinds 5 9 88) (hT : ∀ x ∈ c.exceptionTable.toList, False) (hnm : meth.name = "kinds") (hr : meth.sig.returnType = (some .int)) : ∀ (n : Nat), ∀ (a0 : Option Nat) (x1 : Int) (x2 : Int) (S : AS), inR x1 → inR x2 → f_X6_kinds_13 n a0 x1 x2 S = some q → ∀ ls : Array Slot, hp_L ls 5 [(0, rf b a0), (1, iv x1), (2, iv x2)] → hp_J p l e R s m args below meth c b D dA S0 (hp_Q below b D dA S0 1 q args s) S 13 ls [] := by
  have hst : l.stackTraces = false := C.2.2.2.2.2.2.2.2.2.2.1
  intro n
  induction n with
  | zero =>
    intro a0 x1 x2 S hx1 hx2 h
    cases h
  | succ n ih =>
    intro a0 x1 x2 S hx1 hx2 h ls hl
    unfold f_X6_kinds_13 at h
    refine j_iload_n C dX6_kinds_13 rfl (hl.at 2 rfl) ?_
    refine j_aload_n C dX6_kinds_14 rfl (hl.at 0 rfl) ?_
    obtain ⟨v1, g_v1, h⟩ := bd h
    refine j_gI C dX6_kinds_15 fl_RX6_89 (Or.inl rfl) g_v1 (fun hv1 => ?_)
    refine j_icmp_ge (tgt := 81) C dX6_kinds_18 (by decide) hx2 hv1 (fun b1 => ?_) (fun b1 => ?_)
    · rw [if_pos b1] at h
      refine j_iload_n C dX6_kinds_81 rfl (hl.at 1 rfl) ?_
      exact j_iret C dX6_kinds_82 hr hx1 h
    · rw [if_neg b1] at h
      refine j_iconst C dX6_kinds_21 ?_
      refine k_istore_n (lv' := [(3, iv 1), (0, rf b a0), (1, iv x1), (2, iv x2)]) C dX6_kinds_22 rfl hl (by decide) rfl (fun ls hl => ?_)
      refine j_iconst C dX6_kinds_23 ?_
      refine k_istore (lv' := [(4, iv 0), (3, iv 1), (0, rf b a0), (1, iv x1), (2, iv x2)]) C dX6_kinds_24 hl (by decide) rfl (fun ls hl => ?_)
      exact w_X6_kinds_26 C hT hnm hr ih FU _ _ _ _ _ _ hx1 hx2 (by decide) (by decide) h ls (hl.sub [2, 3, 4, 1, 0] rfl)
noncomputable def f_X6_kinds (a0 : Option Nat) (S : AS) : Option RS :=
  (pI S a0 7 0 0).bind fun S1 =>
  gd (isK S1 a0 7) <|
  cV (f_X6_findAlike a0 S1) fun S2 =>
  f_X6_kinds_13 FU a0 0 0 S2
set_option maxHeartbeats 4000000 in
set_option maxRecDepth 100000 in
theorem m_X6_kinds {l : Launch} {b : Nat} {D : va_G} {dA : Nat → ClassId} (hst : l.stackTraces = false) {a0 : Option Nat} {S : AS} {q : RS} (h : f_X6_kinds a0 S = some q) : hp_M l b D dA yX6_kinds cX6_kinds 5 (some .int) 9 88 [rf b a0] S 1 q := by
  have hcat : ∀ v ∈ ([rf b a0] : List Value), v.category = 1 := (by intro v hv; simp only [List.mem_cons, List.not_mem_nil, or_false] at hv; rcases hv with rfl <;> first | exact cat_iv _ | exact cat_rf _ _)
  refine hp_ofJ (own := RX6) hst (by decide +kernel) rfl hcat (Nat.le_of_ble_eq_true rfl) ?_
  intro p e R s m args below meth c C hT hnm hr ls hl9
  have hl : hp_L ls 5 [(0, rf b a0)] := hp_L.of hl9 hcat
  unfold f_X6_kinds at h
  refine j_aload_n C dX6_kinds_0 rfl (hl.at 0 rfl) ?_
  refine j_iconst C dX6_kinds_1 ?_
  obtain ⟨S1, g_S1, h⟩ := bd h
  refine j_pI C dX6_kinds_2 fl_RX6_85 (Or.inl rfl) rfl (by decide) g_S1 ?_
  refine j_aload_n C dX6_kinds_5 rfl (hl.at 0 rfl) ?_
  obtain ⟨c4, h⟩ := gd_some h
  rcases cV_some h with ⟨S2, y3, hc, h⟩ | ⟨hc, hne⟩
  · refine j_callV C (run_W (As := []) (rest := []) C (m_X6_findAlike hst hc) cv_RX6_170 (by decide) rfl c4 rfl hl (by decide) (by decide) (by decide) dX6_kinds_6) ?_
    refine j_iconst C dX6_kinds_9 ?_
    refine k_istore_n (lv' := [(1, iv 0), (0, rf b a0)]) C dX6_kinds_10 rfl hl (by decide) rfl (fun ls hl => ?_)
    refine j_iconst C dX6_kinds_11 ?_
    refine k_istore_n (lv' := [(2, iv 0), (1, iv 0), (0, rf b a0)]) C dX6_kinds_12 rfl hl (by decide) rfl (fun ls hl => ?_)
    exact w_X6_kinds_13 C hT hnm hr FU _ _ _ _ (by decide) (by decide) h ls (hl.sub [2, 1, 0] rfl)
  · exact j_thrown C hT (run_W (As := []) (rest := []) C (m_X6_findAlike hst hc) cv_RX6_170 (by decide) rfl c4 rfl hl (by decide) (by decide) (by decide) dX6_kinds_6) hne
noncomputable def f_X6_measure_189 (k32 : Option Nat → Int → AS → Option RS) (k40 : Option Nat → Int → Int → AS → Option RS) (a0 : Option Nat) (x2 : Int) (x3 : Int) (x4 : Int) (t0 : Int) (S : AS) : Option RS :=
  (gR S a0 7 26).bind fun o1 =>
  (sI S o1 8 x2 x3).bind fun S2 =>
  (gR S2 a0 7 27).bind fun o3 =>
  (sI S2 o3 8 x2 x4).bind fun S4 =>
  (chk (x2 + 1)).bind fun z5 =>
  k40 a0 t0 z5 S4
set_option maxHeartbeats 4000000 in
set_option maxRecDepth 100000 in
theorem w_X6_measure_189 {p : Program} {l : Launch} {e : Env} {R : Room} {s : State} {m : MethodId} {args : Array Value} {below : List Frame} {meth : Method} {c : Code} {b : Nat} {D : va_G} {dA : Nat → ClassId} {S0 : AS} {q : RS} (C : hp_C p l e R s m args below meth c b D dA S0 RX6 cX6_measure 7 6 16) (hT : ∀ x ∈ c.exceptionTable.toList, False) (hnm : meth.name = "measure") (hr : meth.sig.returnType = none) {k32 : Option Nat → Int → AS → Option RS} (hk32 : ∀ (a0 : Option Nat) (x1 : Int) (S : AS), inR x1 → k32 a0 x1 S = some q → ∀ ls : Array Slot, hp_L ls 7 [(0, rf b a0), (1, iv x1)] → hp_J p l e R s m args below meth c b D dA S0 (hp_Q below b D dA S0 0 q args s) S 32 ls []) {k40 : Option Nat → Int → Int → AS → Option RS} (hk40 : ∀ (a0 : Option Nat) (x1 : Int) (x2 : Int) (S : AS), inR x1 → inR x2 → k40 a0 x1 x2 S = some q → ∀ ls : Array Slot, hp_L ls 7 [(0, rf b a0), (1, iv x1), (2, iv x2)] → hp_J p l e R s m args below meth c b D dA S0 (hp_Q below b D dA S0 0 q args s) S 40 ls []) : ∀ (a0 : Option Nat) (x2 : Int) (x3 : Int) (x4 : Int) (t0 : Int) (S : AS), inR x2 → inR x3 → inR x4 → inR t0 → f_X6_measure_189 k32 k40 a0 x2 x3 x4 t0 S = some q → ∀ ls : Array Slot, hp_L ls 7 [(0, rf b a0), (2, iv x2), (3, iv x3), (4, iv x4)] → hp_J p l e R s m args below meth c b D dA S0 (hp_Q below b D dA S0 0 q args s) S 189 ls [iv t0] := by
  have hst : l.stackTraces = false := C.2.2.2.2.2.2.2.2.2.2.1
  intro a0 x2 x3 x4 t0 S hx2 hx3 hx4 ht0 h ls hl
  unfold f_X6_measure_189 at h
  refine k_istore_n (lv' := [(1, iv t0), (0, rf b a0), (2, iv x2), (3, iv x3), (4, iv x4)]) C dX6_measure_189 rfl hl (by decide) rfl (fun ls hl => ?_)
  refine j_aload_n C dX6_measure_190 rfl (hl.at 1 rfl) ?_
  obtain ⟨o1, g_o1, h⟩ := bd h
  refine j_gR C dX6_measure_191 fl_RX6_76 rfl g_o1 ?_
  refine j_iload_n C dX6_measure_194 rfl (hl.at 2 rfl) ?_
  refine j_iload_n C dX6_measure_195 rfl (hl.at 3 rfl) ?_
  obtain ⟨S2, g_S2, h⟩ := bd h
  refine j_iast C dX6_measure_196 hx2 hx3 g_S2 ?_
  refine j_aload_n C dX6_measure_197 rfl (hl.at 1 rfl) ?_
  obtain ⟨o3, g_o3, h⟩ := bd h
  refine j_gR C dX6_measure_198 fl_RX6_79 rfl g_o3 ?_
  refine j_iload_n C dX6_measure_201 rfl (hl.at 2 rfl) ?_
  refine j_iload C dX6_measure_202 (hl.at 4 rfl) ?_
  obtain ⟨S4, g_S4, h⟩ := bd h
  refine j_iast C dX6_measure_204 hx2 hx4 g_S4 ?_
  obtain ⟨z5, g_z5, h⟩ := bd h
  refine k_iinc (k9 := 2) (lv' := [(2, iv z5), (1, iv t0), (0, rf b a0), (3, iv x3), (4, iv x4)]) C dX6_measure_205 hl rfl g_z5 (by decide) rfl (fun hz5 ls hl => ?_)
  refine j_goto (tgt := 40) C dX6_measure_208 (by decide) ?_
  exact hk40 _ _ _ _ ht0 hz5 h ls (hl.sub [2, 1, 0] rfl)
noncomputable def f_X6_measure_184 (k32 : Option Nat → Int → AS → Option RS) (k40 : Option Nat → Int → Int → AS → Option RS) (a0 : Option Nat) (x2 : Int) (x3 : Int) (x4 : Int) (S : AS) : Option RS :=
  f_X6_measure_189 k32 k40 a0 x2 x3 x4 1 S
set_option maxHeartbeats 4000000 in
set_option maxRecDepth 100000 in
theorem w_X6_measure_184 {p : Program} {l : Launch} {e : Env} {R : Room} {s : State} {m : MethodId} {args : Array Value} {below : List Frame} {meth : Method} {c : Code} {b : Nat} {D : va_G} {dA : Nat → ClassId} {S0 : AS} {q : RS} (C : hp_C p l e R s m args below meth c b D dA S0 RX6 cX6_measure 7 6 16) (hT : ∀ x ∈ c.exceptionTable.toList, False) (hnm : meth.name = "measure") (hr : meth.sig.returnType = none) {k32 : Option Nat → Int → AS → Option RS} (hk32 : ∀ (a0 : Option Nat) (x1 : Int) (S : AS), inR x1 → k32 a0 x1 S = some q → ∀ ls : Array Slot, hp_L ls 7 [(0, rf b a0), (1, iv x1)] → hp_J p l e R s m args below meth c b D dA S0 (hp_Q below b D dA S0 0 q args s) S 32 ls []) {k40 : Option Nat → Int → Int → AS → Option RS} (hk40 : ∀ (a0 : Option Nat) (x1 : Int) (x2 : Int) (S : AS), inR x1 → inR x2 → k40 a0 x1 x2 S = some q → ∀ ls : Array Slot, hp_L ls 7 [(0, rf b a0), (1, iv x1), (2, iv x2)] → hp_J p l e R s m args below meth c b D dA S0 (hp_Q below b D dA S0 0 q args s) S 40 ls []) : ∀ (a0 : Option Nat) (x2 : Int) (x3 : Int) (x4 : Int) (S : AS), inR x2 → inR x3 → inR x4 → f_X6_measure_184 k32 k40 a0 x2 x3 x4 S = some q → ∀ ls : Array Slot, hp_L ls 7 [(0, rf b a0), (2, iv x2), (3, iv x3), (4, iv x4)] → hp_J p l e R s m args below meth c b D dA S0 (hp_Q below b D dA S0 0 q args s) S 184 ls [] := by
  have hst : l.stackTraces = false := C.2.2.2.2.2.2.2.2.2.2.1
  intro a0 x2 x3 x4 S hx2 hx3 hx4 h ls hl
  unfold f_X6_measure_184 at h
  refine j_iconst C dX6_measure_184 ?_
  refine j_goto (tgt := 189) C dX6_measure_185 (by decide) ?_
  exact w_X6_measure_189 C hT hnm hr hk32 hk40 _ _ _ _ _ _ hx2 hx3 hx4 (by decide) h ls (hl.sub [0, 1, 2, 3] rfl)
noncomputable def f_X6_measure_120 (k32 : Option Nat → Int → AS → Option RS) (k40 : Option Nat → Int → Int → AS → Option RS) (k69 : Option Nat → Int → Int → Int → Int → Int → AS → Option RS) (a0 : Option Nat) (x1 : Int) (x2 : Int) (x4 : Int) (x5 : Int) (x6 : Int) (t0 : Int) (S : AS) : Option RS :=
  (gR S a0 7 27).bind fun o1 =>
  (aI S o1 8 x6).bind fun v2 =>
  (chk (x4 + v2)).bind fun z3 =>
  if z3 ≤ 1000000 then
    (gR S a0 7 27).bind fun o4 =>
    (aI S o4 8 x6).bind fun v5 =>
    (chk (x4 + v5)).bind fun z6 =>
    (chk (x5 + 1)).bind fun z7 =>
    k69 a0 x1 x2 t0 z6 z7 S
  else
    (chk (x5 + 1)).bind fun z8 =>
    k69 a0 x1 x2 t0 1000000 z8 S
set_option maxHeartbeats 4000000 in
set_option maxRecDepth 100000 in
theorem w_X6_measure_120 {p : Program} {l : Launch} {e : Env} {R : Room} {s : State} {m : MethodId} {args : Array Value} {below : List Frame} {meth : Method} {c : Code} {b : Nat} {D : va_G} {dA : Nat → ClassId} {S0 : AS} {q : RS} (C : hp_C p l e R s m args below meth c b D dA S0 RX6 cX6_measure 7 6 16) (hT : ∀ x ∈ c.exceptionTable.toList, False) (hnm : meth.name = "measure") (hr : meth.sig.returnType = none) {k32 : Option Nat → Int → AS → Option RS} (hk32 : ∀ (a0 : Option Nat) (x1 : Int) (S : AS), inR x1 → k32 a0 x1 S = some q → ∀ ls : Array Slot, hp_L ls 7 [(0, rf b a0), (1, iv x1)] → hp_J p l e R s m args below meth c b D dA S0 (hp_Q below b D dA S0 0 q args s) S 32 ls []) {k40 : Option Nat → Int → Int → AS → Option RS} (hk40 : ∀ (a0 : Option Nat) (x1 : Int) (x2 : Int) (S : AS), inR x1 → inR x2 → k40 a0 x1 x2 S = some q → ∀ ls : Array Slot, hp_L ls 7 [(0, rf b a0), (1, iv x1), (2, iv x2)] → hp_J p l e R s m args below meth c b D dA S0 (hp_Q below b D dA S0 0 q args s) S 40 ls []) {k69 : Option Nat → Int → Int → Int → Int → Int → AS → Option RS} (hk69 : ∀ (a0 : Option Nat) (x1 : Int) (x2 : Int) (x3 : Int) (x4 : Int) (x5 : Int) (S : AS), inR x1 → inR x2 → inR x3 → inR x4 → inR x5 → k69 a0 x1 x2 x3 x4 x5 S = some q → ∀ ls : Array Slot, hp_L ls 7 [(0, rf b a0), (1, iv x1), (2, iv x2), (3, iv x3), (4, iv x4), (5, iv x5)] → hp_J p l e R s m args below meth c b D dA S0 (hp_Q below b D dA S0 0 q args s) S 69 ls []) : ∀ (a0 : Option Nat) (x1 : Int) (x2 : Int) (x4 : Int) (x5 : Int) (x6 : Int) (t0 : Int) (S : AS), inR x1 → inR x2 → inR x4 → inR x5 → inR x6 → inR t0 → f_X6_measure_120 k32 k40 k69 a0 x1 x2 x4 x5 x6 t0 S = some q → ∀ ls : Array Slot, hp_L ls 7 [(0, rf b a0), (1, iv x1), (2, iv x2), (4, iv x4), (5, iv x5), (6, iv x6)] → hp_J p l e R s m args below meth c b D dA S0 (hp_Q below b D dA S0 0 q args s) S 120 ls [iv t0] := by
  have hst : l.stackTraces = false := C.2.2.2.2.2.2.2.2.2.2.1
  intro a0 x1 x2 x4 x5 x6 t0 S hx1 hx2 hx4 hx5 hx6 ht0 h ls hl
  unfold f_X6_measure_120 at h
  refine k_istore_n (lv' := [(3, iv t0), (0, rf b a0), (1, iv x1), (2, iv x2), (4, iv x4), (5, iv x5), (6, iv x6)]) C dX6_measure_120 rfl hl (by decide) rfl (fun ls hl => ?_)
  refine j_iload C dX6_measure_121 (hl.at 4 rfl) ?_
  refine j_aload_n C dX6_measure_123 rfl (hl.at 1 rfl) ?_
  obtain ⟨o1, g_o1, h⟩ := bd h
  refine j_gR C dX6_measure_124 fl_RX6_79 rfl g_o1 ?_
  refine j_iload C dX6_measure_127 (hl.at 6 rfl) ?_
  obtain ⟨v2, g_v2, h⟩ := bd h
  refine j_iald C dX6_measure_129 hx6 g_v2 (fun hv2 => ?_)
  obtain ⟨z3, g_z3, h⟩ := bd h
  refine j_iadd C dX6_measure_130 g_z3 (fun hz3 => ?_)
  refine j_ldc (x := 1000000) C dX6_measure_131 kn_RX6_173 ?_
  refine j_icmp_le (tgt := 141) C dX6_measure_133 (by decide) hz3 (by decide) (fun b1 => ?_) (fun b1 => ?_)
  · rw [if_pos b1] at h
    refine j_iload C dX6_measure_141 (hl.at 4 rfl) ?_
    refine j_aload_n C dX6_measure_143 rfl (hl.at 1 rfl) ?_
    obtain ⟨o4, g_o4, h⟩ := bd h
    refine j_gR C dX6_measure_144 fl_RX6_79 rfl g_o4 ?_
    refine j_iload C dX6_measure_147 (hl.at 6 rfl) ?_
    obtain ⟨v5, g_v5, h⟩ := bd h
    refine j_iald C dX6_measure_149 hx6 g_v5 (fun hv5 => ?_)
    obtain ⟨z6, g_z6, h⟩ := bd h
    refine j_iadd C dX6_measure_150 g_z6 (fun hz6 => ?_)
    refine k_istore (lv' := [(4, iv z6), (3, iv t0), (0, rf b a0), (1, iv x1), (2, iv x2), (5, iv x5), (6, iv x6)]) C dX6_measure_151 hl (by decide) rfl (fun ls hl => ?_)
    obtain ⟨z7, g_z7, h⟩ := bd h
    refine k_iinc (k9 := 5) (lv' := [(5, iv z7), (4, iv z6), (3, iv t0), (0, rf b a0), (1, iv x1), (2, iv x2), (6, iv x6)]) C dX6_measure_153 hl rfl g_z7 (by decide) rfl (fun hz7 ls hl => ?_)
    refine j_goto (tgt := 69) C dX6_measure_156 (by decide) ?_
    exact hk69 _ _ _ _ _ _ _ hx1 hx2 ht0 hz6 hz7 h ls (hl.sub [3, 4, 5, 2, 1, 0] rfl)
  · rw [if_neg b1] at h
    refine j_ldc (x := 1000000) C dX6_measure_136 kn_RX6_173 ?_
    refine j_goto (tgt := 151) C dX6_measure_138 (by decide) ?_
    refine k_istore (lv' := [(4, iv 1000000), (3, iv t0), (0, rf b a0), (1, iv x1), (2, iv x2), (5, iv x5), (6, iv x6)]) C dX6_measure_151 hl (by decide) rfl (fun ls hl => ?_)
    obtain ⟨z8, g_z8, h⟩ := bd h
    refine k_iinc (k9 := 5) (lv' := [(5, iv z8), (4, iv 1000000), (3, iv t0), (0, rf b a0), (1, iv x1), (2, iv x2), (6, iv x6)]) C dX6_measure_153 hl rfl g_z8 (by decide) rfl (fun hz8 ls hl => ?_)
    refine j_goto (tgt := 69) C dX6_measure_156 (by decide) ?_
    exact hk69 _ _ _ _ _ _ _ hx1 hx2 ht0 (by decide) hz8 h ls (hl.sub [3, 4, 5, 2, 1, 0] rfl)
noncomputable def f_X6_measure_69 (n : Nat) (k32 : Option Nat → Int → AS → Option RS) (k40 : Option Nat → Int → Int → AS → Option RS) (a0 : Option Nat) (x1 : Int) (x2 : Int) (x3 : Int) (x4 : Int) (x5 : Int) (S : AS) : Option RS := match n with
  | 0 => none
  | n + 1 =>
    (gR S a0 7 5).bind fun o1 =>
    (aI S o1 8 x2).bind fun v2 =>
    if v2 ≤ x5 then
      if x1 = 0 then
        (gR S a0 7 26).bind fun o3 =>
        (aI S o3 8 x2).bind fun v4 =>
        if x3 = v4 then
          (gR S a0 7 27).bind fun o5 =>
          (aI S o5 8 x2).bind fun v6 =>
          if x4 = v6 then
            f_X6_measure_189 k32 k40 a0 x2 x3 x4 0 S
          else
            f_X6_measure_184 k32 k40 a0 x2 x3 x4 S
        else
          f_X6_measure_184 k32 k40 a0 x2 x3 x4 S
      else
        f_X6_measure_184 k32 k40 a0 x2 x3 x4 S
    else
      (gR S a0 7 6).bind fun o7 =>
      (chk (64 * x2)).bind fun z8 =>
      (chk (z8 + x5)).bind fun z9 =>
      (aI S o7 8 z9).bind fun v10 =>
      (gR S a0 7 26).bind fun o11 =>
      (aI S o11 8 v10).bind fun v12 =>
      (chk (v12 + 1)).bind fun z13 =>
      if z13 ≤ x3 then
        f_X6_measure_120 k32 k40 (f_X6_measure_69 n k32 k40) a0 x1 x2 x4 x5 v10 x3 S
      else
        (gR S a0 7 26).bind fun o14 =>
        (aI S o14 8 v10).bind fun v15 =>
        (chk (v15 + 1)).bind fun z16 =>
        f_X6_measure_120 k32 k40 (f_X6_measure_69 n k32 k40) a0 x1 x2 x4 x5 v10 z16 S
set_option maxHeartbeats 4000000 in
set_option maxRecDepth 100000 in
theorem w_X6_measure_69 {p : Program} {l : Launch} {e : Env} {R : Room} {s : State} {m : MethodId} {args : Array Value} {below : List Frame} {meth : Method} {c : Code} {b : Nat} {D : va_G} {dA : Nat → ClassId} {S0 : AS} {q : RS} (C : hp_C p l e R s m args below meth c b D dA S0 RX6 cX6_measure 7 6 16) (hT : ∀ x ∈ c.exceptionTable.toList, False) (hnm : meth.name = "measure") (hr : meth.sig.returnType = none) {k32 : Option Nat → Int → AS → Option RS} (hk32 : ∀ (a0 : Option Nat) (x1 : Int) (S : AS), inR x1 → k32 a0 x1 S = some q → ∀ ls : Array Slot, hp_L ls 7 [(0, rf b a0), (1, iv x1)] → hp_J p l e R s m args below meth c b D dA S0 (hp_Q below b D dA S0 0 q args s) S 32 ls []) {k40 : Option Nat → Int → Int → AS → Option RS} (hk40 : ∀ (a0 : Option Nat) (x1 : Int) (x2 : Int) (S : AS), inR x1 → inR x2 → k40 a0 x1 x2 S = some q → ∀ ls : Array Slot, hp_L ls 7 [(0, rf b a0), (1, iv x1), (2, iv x2)] → hp_J p l e R s m args below meth c b D dA S0 (hp_Q below b D dA S0 0 q args s) S 40 ls []) : ∀ (n : Nat), ∀ (a0 : Option Nat) (x1 : Int) (x2 : Int) (x3 : Int) (x4 : Int) (x5 : Int) (S : AS), inR x1 → inR x2 → inR x3 → inR x4 → inR x5 → f_X6_measure_69 n k32 k40 a0 x1 x2 x3 x4 x5 S = some q → ∀ ls : Array Slot, hp_L ls 7 [(0, rf b a0), (1, iv x1), (2, iv x2), (3, iv x3), (4, iv x4), (5, iv x5)] → hp_J p l e R s m args below meth c b D dA S0 (hp_Q below b D dA S0 0 q args s) S 69 ls [] := by
  have hst : l.stackTraces = false := C.2.2.2.2.2.2.2.2.2.2.1
  intro n
  induction n with
  | zero =>
    intro a0 x1 x2 x3 x4 x5 S hx1 hx2 hx3 hx4 hx5 h
    cases h
  | succ n ih =>
    intro a0 x1 x2 x3 x4 x5 S hx1 hx2 hx3 hx4 hx5 h ls hl
    unfold f_X6_measure_69 at h
    refine j_iload C dX6_measure_69 (hl.at 5 rfl) ?_
    refine j_aload_n C dX6_measure_71 rfl (hl.at 0 rfl) ?_
    obtain ⟨o1, g_o1, h⟩ := bd h
    refine j_gR C dX6_measure_72 fl_RX6_20 rfl g_o1 ?_
    refine j_iload_n C dX6_measure_75 rfl (hl.at 2 rfl) ?_
    obtain ⟨v2, g_v2, h⟩ := bd h
    refine j_iald C dX6_measure_76 hx2 g_v2 (fun hv2 => ?_)
    refine j_icmp_ge (tgt := 159) C dX6_measure_77 (by decide) hx5 hv2 (fun b1 => ?_) (fun b1 => ?_)
    · rw [if_pos b1] at h
      refine j_iload_n C dX6_measure_159 rfl (hl.at 1 rfl) ?_
      refine j_if_ne (tgt := 184) C dX6_measure_160 (by decide) hx1 (fun b1 => ?_) (fun b1 => ?_)
      · rw [if_neg b1] at h
        exact w_X6_measure_184 C hT hnm hr hk32 hk40 _ _ _ _ _ hx2 hx3 hx4 h ls (hl.sub [0, 2, 3, 4] rfl)
      · rw [if_pos (Decidable.byContradiction b1)] at h
        refine j_iload_n C dX6_measure_163 rfl (hl.at 3 rfl) ?_
        refine j_aload_n C dX6_measure_164 rfl (hl.at 0 rfl) ?_
        obtain ⟨o3, g_o3, h⟩ := bd h
        refine j_gR C dX6_measure_165 fl_RX6_76 rfl g_o3 ?_
        refine j_iload_n C dX6_measure_168 rfl (hl.at 2 rfl) ?_
        obtain ⟨v4, g_v4, h⟩ := bd h
        refine j_iald C dX6_measure_169 hx2 g_v4 (fun hv4 => ?_)
        refine j_icmp_ne (tgt := 184) C dX6_measure_170 (by decide) hx3 hv4 (fun b1 => ?_) (fun b1 => ?_)
        · rw [if_neg b1] at h
          exact w_X6_measure_184 C hT hnm hr hk32 hk40 _ _ _ _ _ hx2 hx3 hx4 h ls (hl.sub [0, 2, 3, 4] rfl)
        · rw [if_pos (Decidable.byContradiction b1)] at h
          refine j_iload C dX6_measure_173 (hl.at 4 rfl) ?_
          refine j_aload_n C dX6_measure_175 rfl (hl.at 0 rfl) ?_
          obtain ⟨o5, g_o5, h⟩ := bd h
          refine j_gR C dX6_measure_176 fl_RX6_79 rfl g_o5 ?_
          refine j_iload_n C dX6_measure_179 rfl (hl.at 2 rfl) ?_
          obtain ⟨v6, g_v6, h⟩ := bd h
          refine j_iald C dX6_measure_180 hx2 g_v6 (fun hv6 => ?_)
          refine j_icmp_eq (tgt := 188) C dX6_measure_181 (by decide) hx4 hv6 (fun b1 => ?_) (fun b1 => ?_)
          · rw [if_pos b1] at h
            refine j_iconst C dX6_measure_188 ?_
            exact w_X6_measure_189 C hT hnm hr hk32 hk40 _ _ _ _ _ _ hx2 hx3 hx4 (by decide) h ls (hl.sub [0, 2, 3, 4] rfl)
          · rw [if_neg b1] at h
            exact w_X6_measure_184 C hT hnm hr hk32 hk40 _ _ _ _ _ hx2 hx3 hx4 h ls (hl.sub [0, 2, 3, 4] rfl)
    · rw [if_neg b1] at h
      refine j_aload_n C dX6_measure_80 rfl (hl.at 0 rfl) ?_
      obtain ⟨o7, g_o7, h⟩ := bd h
      refine j_gR C dX6_measure_81 fl_RX6_23 rfl g_o7 ?_
      refine j_bipush (x := 64) C dX6_measure_84 (by decide) ?_
      refine j_iload_n C dX6_measure_86 rfl (hl.at 2 rfl) ?_
      obtain ⟨z8, g_z8, h⟩ := bd h
      refine j_imul C dX6_measure_87 g_z8 (fun hz8 => ?_)
      refine j_iload C dX6_measure_88 (hl.at 5 rfl) ?_
      obtain ⟨z9, g_z9, h⟩ := bd h
      refine j_iadd C dX6_measure_90 g_z9 (fun hz9 => ?_)
      obtain ⟨v10, g_v10, h⟩ := bd h
      refine j_iald C dX6_measure_91 hz9 g_v10 (fun hv10 => ?_)
      refine k_istore (lv' := [(6, iv v10), (0, rf b a0), (1, iv x1), (2, iv x2), (3, iv x3), (4, iv x4), (5, iv x5)]) C dX6_measure_92 hl (by decide) rfl (fun ls hl => ?_)
      refine j_aload_n C dX6_measure_94 rfl (hl.at 1 rfl) ?_
      obtain ⟨o11, g_o11, h⟩ := bd h
      refine j_gR C dX6_measure_95 fl_RX6_76 rfl g_o11 ?_
      refine j_iload C dX6_measure_98 (hl.at 0 rfl) ?_
      obtain ⟨v12, g_v12, h⟩ := bd h
      refine j_iald C dX6_measure_100 hv10 g_v12 (fun hv12 => ?_)
      refine j_iconst C dX6_measure_101 ?_
      obtain ⟨z13, g_z13, h⟩ := bd h
      refine j_iadd C dX6_measure_102 g_z13 (fun hz13 => ?_)
      refine j_iload_n C dX6_measure_103 rfl (hl.at 4 rfl) ?_
      refine j_icmp_le (tgt := 119) C dX6_measure_104 (by decide) hz13 hx3 (fun b1 => ?_) (fun b1 => ?_)
      · rw [if_pos b1] at h
        refine j_iload_n C dX6_measure_119 rfl (hl.at 4 rfl) ?_
        exact w_X6_measure_120 C hT hnm hr hk32 hk40 ih _ _ _ _ _ _ _ _ hx1 hx2 hx4 hx5 hv10 hx3 h ls (hl.sub [1, 2, 3, 5, 6, 0] rfl)
      · rw [if_neg b1] at h
        refine j_aload_n C dX6_measure_107 rfl (hl.at 1 rfl) ?_
        obtain ⟨o14, g_o14, h⟩ := bd h
        refine j_gR C dX6_measure_108 fl_RX6_76 rfl g_o14 ?_
        refine j_iload C dX6_measure_111 (hl.at 0 rfl) ?_
        obtain ⟨v15, g_v15, h⟩ := bd h
        refine j_iald C dX6_measure_113 hv10 g_v15 (fun hv15 => ?_)
        refine j_iconst C dX6_measure_114 ?_
        obtain ⟨z16, g_z16, h⟩ := bd h
        refine j_iadd C dX6_measure_115 g_z16 (fun hz16 => ?_)
        refine j_goto (tgt := 120) C dX6_measure_116 (by decide) ?_
        exact w_X6_measure_120 C hT hnm hr hk32 hk40 ih _ _ _ _ _ _ _ _ hx1 hx2 hx4 hx5 hv10 hz16 h ls (hl.sub [1, 2, 3, 5, 6, 0] rfl)
noncomputable def f_X6_measure_64 (k32 : Option Nat → Int → AS → Option RS) (k40 : Option Nat → Int → Int → AS → Option RS) (a0 : Option Nat) (x1 : Int) (x2 : Int) (x3 : Int) (t0 : Int) (S : AS) : Option RS :=
  f_X6_measure_69 FU k32 k40 a0 x1 x2 x3 t0 0 S
set_option maxHeartbeats 4000000 in
set_option maxRecDepth 100000 in
theorem w_X6_measure_64 {p : Program} {l : Launch} {e : Env} {R : Room} {s : State} {m : MethodId} {args : Array Value} {below : List Frame} {meth : Method} {c : Code} {b : Nat} {D : va_G} {dA : Nat → ClassId} {S0 : AS} {q : RS} (C : hp_C p l e R s m args below meth c b D dA S0 RX6 cX6_measure 7 6 16) (hT : ∀ x ∈ c.exceptionTable.toList, False) (hnm : meth.name = "measure") (hr : meth.sig.returnType = none) {k32 : Option Nat → Int → AS → Option RS} (hk32 : ∀ (a0 : Option Nat) (x1 : Int) (S : AS), inR x1 → k32 a0 x1 S = some q → ∀ ls : Array Slot, hp_L ls 7 [(0, rf b a0), (1, iv x1)] → hp_J p l e R s m args below meth c b D dA S0 (hp_Q below b D dA S0 0 q args s) S 32 ls []) {k40 : Option Nat → Int → Int → AS → Option RS} (hk40 : ∀ (a0 : Option Nat) (x1 : Int) (x2 : Int) (S : AS), inR x1 → inR x2 → k40 a0 x1 x2 S = some q → ∀ ls : Array Slot, hp_L ls 7 [(0, rf b a0), (1, iv x1), (2, iv x2)] → hp_J p l e R s m args below meth c b D dA S0 (hp_Q below b D dA S0 0 q args s) S 40 ls []) : ∀ (a0 : Option Nat) (x1 : Int) (x2 : Int) (x3 : Int) (t0 : Int) (S : AS), inR x1 → inR x2 → inR x3 → inR t0 → f_X6_measure_64 k32 k40 a0 x1 x2 x3 t0 S = some q → ∀ ls : Array Slot, hp_L ls 7 [(0, rf b a0), (1, iv x1), (2, iv x2), (3, iv x3)] → hp_J p l e R s m args below meth c b D dA S0 (hp_Q below b D dA S0 0 q args s) S 64 ls [iv t0] := by
  have hst : l.stackTraces = false := C.2.2.2.2.2.2.2.2.2.2.1
  intro a0 x1 x2 x3 t0 S hx1 hx2 hx3 ht0 h ls hl
  unfold f_X6_measure_64 at h
  refine k_istore (lv' := [(4, iv t0), (0, rf b a0), (1, iv x1), (2, iv x2), (3, iv x3)]) C dX6_measure_64 hl (by decide) rfl (fun ls hl => ?_)
  refine j_iconst C dX6_measure_66 ?_
  refine k_istore (lv' := [(5, iv 0), (4, iv t0), (0, rf b a0), (1, iv x1), (2, iv x2), (3, iv x3)]) C dX6_measure_67 hl (by decide) rfl (fun ls hl => ?_)
  exact w_X6_measure_69 C hT hnm hr hk32 hk40 FU _ _ _ _ _ _ _ hx1 hx2 hx3 ht0 (by decide) h ls (hl.sub [2, 3, 4, 5, 1, 0] rfl)
noncomputable def f_X6_measure_40 (n : Nat) (k32 : Option Nat → Int → AS → Option RS) (a0 : Option Nat) (x1 : Int) (x2 : Int) (S : AS) : Option RS := match n with
  | 0 => none
  | n + 1 =>
    (gI S a0 7 1).bind fun v1 =>
    if v1 ≤ x2 then
      k32 a0 x1 S
    else
      (gR S a0 7 5).bind fun o2 =>
      (aI S o2 8 x2).bind fun v3 =>
      if v3 = 0 then
        f_X6_measure_64 k32 (f_X6_measure_40 n k32) a0 x1 x2 0 1 S
      else
        f_X6_measure_64 k32 (f_X6_measure_40 n k32) a0 x1 x2 0 0 S
set_option maxHeartbeats 4000000 in
set_option maxRecDepth 100000 in
theorem w_X6_measure_40 {p : Program} {l : Launch} {e : Env} {R : Room} {s : State} {m : MethodId} {args : Array Value} {below : List Frame} {meth : Method} {c : Code} {b : Nat} {D : va_G} {dA : Nat → ClassId} {S0 : AS} {q : RS} (C : hp_C p l e R s m args below meth c b D dA S0 RX6 cX6_measure 7 6 16) (hT : ∀ x ∈ c.exceptionTable.toList, False) (hnm : meth.name = "measure") (hr : meth.sig.returnType = none) {k32 : Option Nat → Int → AS → Option RS} (hk32 : ∀ (a0 : Option Nat) (x1 : Int) (S : AS), inR x1 → k32 a0 x1 S = some q → ∀ ls : Array Slot, hp_L ls 7 [(0, rf b a0), (1, iv x1)] → hp_J p l e R s m args below meth c b D dA S0 (hp_Q below b D dA S0 0 q args s) S 32 ls []) : ∀ (n : Nat), ∀ (a0 : Option Nat) (x1 : Int) (x2 : Int) (S : AS), inR x1 → inR x2 → f_X6_measure_40 n k32 a0 x1 x2 S = some q → ∀ ls : Array Slot, hp_L ls 7 [(0, rf b a0), (1, iv x1), (2, iv x2)] → hp_J p l e R s m args below meth c b D dA S0 (hp_Q below b D dA S0 0 q args s) S 40 ls [] := by
  have hst : l.stackTraces = false := C.2.2.2.2.2.2.2.2.2.2.1
  intro n
  induction n with
  | zero =>
    intro a0 x1 x2 S hx1 hx2 h
    cases h
  | succ n ih =>
    intro a0 x1 x2 S hx1 hx2 h ls hl
    unfold f_X6_measure_40 at h
    refine j_iload_n C dX6_measure_40 rfl (hl.at 2 rfl) ?_
    refine j_aload_n C dX6_measure_41 rfl (hl.at 0 rfl) ?_
    obtain ⟨v1, g_v1, h⟩ := bd h
    refine j_gI C dX6_measure_42 fl_RX6_89 (Or.inl rfl) g_v1 (fun hv1 => ?_)
    refine j_icmp_ge (tgt := 211) C dX6_measure_45 (by decide) hx2 hv1 (fun b1 => ?_) (fun b1 => ?_)
    · rw [if_pos b1] at h
      refine j_goto (tgt := 32) C dX6_measure_211 (by decide) ?_
      exact hk32 _ _ _ hx1 h ls (hl.sub [0, 1] rfl)
    · rw [if_neg b1] at h
      refine j_iconst C dX6_measure_48 ?_
      refine k_istore_n (lv' := [(3, iv 0), (0, rf b a0), (1, iv x1), (2, iv x2)]) C dX6_measure_49 rfl hl (by decide) rfl (fun ls hl => ?_)
      refine j_aload_n C dX6_measure_50 rfl (hl.at 1 rfl) ?_
      obtain ⟨o2, g_o2, h⟩ := bd h
      refine j_gR C dX6_measure_51 fl_RX6_20 rfl g_o2 ?_
      refine j_iload_n C dX6_measure_54 rfl (hl.at 3 rfl) ?_
      obtain ⟨v3, g_v3, h⟩ := bd h
      refine j_iald C dX6_measure_55 hx2 g_v3 (fun hv3 => ?_)
      refine j_if_ne (tgt := 63) C dX6_measure_56 (by decide) hv3 (fun b1 => ?_) (fun b1 => ?_)
      · rw [if_neg b1] at h
        refine j_iconst C dX6_measure_63 ?_
        exact w_X6_measure_64 C hT hnm hr hk32 ih _ _ _ _ _ _ hx1 hx2 (by decide) (by decide) h ls (hl.sub [1, 2, 3, 0] rfl)
      · rw [if_pos (Decidable.byContradiction b1)] at h
        refine j_iconst C dX6_measure_59 ?_
        refine j_goto (tgt := 64) C dX6_measure_60 (by decide) ?_
        exact w_X6_measure_64 C hT hnm hr hk32 ih _ _ _ _ _ _ hx1 hx2 (by decide) (by decide) h ls (hl.sub [1, 2, 3, 0] rfl)
noncomputable def f_X6_measure_32 (n : Nat) (a0 : Option Nat) (x1 : Int) (S : AS) : Option RS := match n with
  | 0 => none
  | n + 1 =>
    if x1 = 0 then
      rV S
    else
      f_X6_measure_40 FU (f_X6_measure_32 n) a0 0 0 S
set_option maxHeartbeats 4000000 in
set_option maxRecDepth 100000 in
theorem w_X6_measure_32 {p : Program} {l : Launch} {e : Env} {R : Room} {s : State} {m : MethodId} {args : Array Value} {below : List Frame} {meth : Method} {c : Code} {b : Nat} {D : va_G} {dA : Nat → ClassId} {S0 : AS} {q : RS} (C : hp_C p l e R s m args below meth c b D dA S0 RX6 cX6_measure 7 6 16) (hT : ∀ x ∈ c.exceptionTable.toList, False) (hnm : meth.name = "measure") (hr : meth.sig.returnType = none) : ∀ (n : Nat), ∀ (a0 : Option Nat) (x1 : Int) (S : AS), inR x1 → f_X6_measure_32 n a0 x1 S = some q → ∀ ls : Array Slot, hp_L ls 7 [(0, rf b a0), (1, iv x1)] → hp_J p l e R s m args below meth c b D dA S0 (hp_Q below b D dA S0 0 q args s) S 32 ls [] := by
  have hst : l.stackTraces = false := C.2.2.2.2.2.2.2.2.2.2.1
  intro n
  induction n with
  | zero =>
    intro a0 x1 S hx1 h
    cases h
  | succ n ih =>
    intro a0 x1 S hx1 h ls hl
    unfold f_X6_measure_32 at h
    refine j_iload_n C dX6_measure_32 rfl (hl.at 1 rfl) ?_
    refine j_if_eq (tgt := 214) C dX6_measure_33 (by decide) hx1 (fun b1 => ?_) (fun b1 => ?_)
    · rw [if_pos b1] at h
      exact j_vret C dX6_measure_214 hr h
    · rw [if_neg b1] at h
      refine j_iconst C dX6_measure_36 ?_
      refine k_istore_n (lv' := [(1, iv 0), (0, rf b a0)]) C dX6_measure_37 rfl hl (by decide) rfl (fun ls hl => ?_)
      refine j_iconst C dX6_measure_38 ?_
      refine k_istore_n (lv' := [(2, iv 0), (1, iv 0), (0, rf b a0)]) C dX6_measure_39 rfl hl (by decide) rfl (fun ls hl => ?_)
      exact w_X6_measure_40 C hT hnm hr ih FU _ _ _ _ (by decide) (by decide) h ls (hl.sub [2, 1, 0] rfl)
noncomputable def f_X6_measure_2 (n : Nat) (a0 : Option Nat) (x1 : Int) (S : AS) : Option RS := match n with
  | 0 => none
  | n + 1 =>
    (gI S a0 7 1).bind fun v1 =>
    if v1 ≤ x1 then
      f_X6_measure_32 FU a0 1 S
    else
      (gR S a0 7 26).bind fun o2 =>
      (sI S o2 8 x1 0).bind fun S3 =>
      (gR S3 a0 7 27).bind fun o4 =>
      (sI S3 o4 8 x1 1).bind fun S5 =>
      (chk (x1 + 1)).bind fun z6 =>
      f_X6_measure_2 n a0 z6 S5
set_option maxHeartbeats 4000000 in
set_option maxRecDepth 100000 in
theorem w_X6_measure_2 {p : Program} {l : Launch} {e : Env} {R : Room} {s : State} {m : MethodId} {args : Array Value} {below : List Frame} {meth : Method} {c : Code} {b : Nat} {D : va_G} {dA : Nat → ClassId} {S0 : AS} {q : RS} (C : hp_C p l e R s m args below meth c b D dA S0 RX6 cX6_measure 7 6 16) (hT : ∀ x ∈ c.exceptionTable.toList, False) (hnm : meth.name = "measure") (hr : meth.sig.returnType = none) : ∀ (n : Nat), ∀ (a0 : Option Nat) (x1 : Int) (S : AS), inR x1 → f_X6_measure_2 n a0 x1 S = some q → ∀ ls : Array Slot, hp_L ls 7 [(0, rf b a0), (1, iv x1)] → hp_J p l e R s m args below meth c b D dA S0 (hp_Q below b D dA S0 0 q args s) S 2 ls [] := by
  have hst : l.stackTraces = false := C.2.2.2.2.2.2.2.2.2.2.1
  intro n
  induction n with
  | zero =>
    intro a0 x1 S hx1 h
    cases h
  | succ n ih =>
    intro a0 x1 S hx1 h ls hl
    unfold f_X6_measure_2 at h
    refine j_iload_n C dX6_measure_2 rfl (hl.at 1 rfl) ?_
    refine j_aload_n C dX6_measure_3 rfl (hl.at 0 rfl) ?_
    obtain ⟨v1, g_v1, h⟩ := bd h
    refine j_gI C dX6_measure_4 fl_RX6_89 (Or.inl rfl) g_v1 (fun hv1 => ?_)
    refine j_icmp_ge (tgt := 30) C dX6_measure_7 (by decide) hx1 hv1 (fun b1 => ?_) (fun b1 => ?_)
    · rw [if_pos b1] at h
      refine j_iconst C dX6_measure_30 ?_
      refine k_istore_n (lv' := [(1, iv 1), (0, rf b a0)]) C dX6_measure_31 rfl hl (by decide) rfl (fun ls hl => ?_)
      exact w_X6_measure_32 C hT hnm hr FU _ _ _ (by decide) h ls (hl.sub [1, 0] rfl)
    · rw [if_neg b1] at h
      refine j_aload_n C dX6_measure_10 rfl (hl.at 0 rfl) ?_
      obtain ⟨o2, g_o2, h⟩ := bd h
      refine j_gR C dX6_measure_11 fl_RX6_76 rfl g_o2 ?_
      refine j_iload_n C dX6_measure_14 rfl (hl.at 1 rfl) ?_
      refine j_iconst C dX6_measure_15 ?_
      obtain ⟨S3, g_S3, h⟩ := bd h
      refine j_iast C dX6_measure_16 hx1 (by decide) g_S3 ?_
      refine j_aload_n C dX6_measure_17 rfl (hl.at 0 rfl) ?_
      obtain ⟨o4, g_o4, h⟩ := bd h
      refine j_gR C dX6_measure_18 fl_RX6_79 rfl g_o4 ?_
      refine j_iload_n C dX6_measure_21 rfl (hl.at 1 rfl) ?_
      refine j_iconst C dX6_measure_22 ?_
      obtain ⟨S5, g_S5, h⟩ := bd h
      refine j_iast C dX6_measure_23 hx1 (by decide) g_S5 ?_
      obtain ⟨z6, g_z6, h⟩ := bd h
      refine k_iinc (k9 := 1) (lv' := [(1, iv z6), (0, rf b a0)]) C dX6_measure_24 hl rfl g_z6 (by decide) rfl (fun hz6 ls hl => ?_)
      refine j_goto (tgt := 2) C dX6_measure_27 (by decide) ?_
      exact ih _ _ _ hz6 h ls (hl.sub [1, 0] rfl)
noncomputable def f_X6_measure (a0 : Option Nat) (S : AS) : Option RS :=
  f_X6_measure_2 FU a0 0 S
set_option maxHeartbeats 4000000 in
set_option maxRecDepth 100000 in
theorem m_X6_measure {l : Launch} {b : Nat} {D : va_G} {dA : Nat → ClassId} (hst : l.stackTraces = false) {a0 : Option Nat} {S : AS} {q : RS} (h : f_X6_measure a0 S = some q) : hp_M l b D dA yX6_measure cX6_measure 7 none 6 16 [rf b a0] S 0 q := by
  have hcat : ∀ v ∈ ([rf b a0] : List Value), v.category = 1 := (by intro v hv; simp only [List.mem_cons, List.not_mem_nil, or_false] at hv; rcases hv with rfl <;> first | exact cat_iv _ | exact cat_rf _ _)
  refine hp_ofJ (own := RX6) hst (by decide +kernel) rfl hcat (Nat.le_of_ble_eq_true rfl) ?_
  intro p e R s m args below meth c C hT hnm hr ls hl9
  have hl : hp_L ls 7 [(0, rf b a0)] := hp_L.of hl9 hcat
  unfold f_X6_measure at h
  refine j_iconst C dX6_measure_0 ?_
  refine k_istore_n (lv' := [(1, iv 0), (0, rf b a0)]) C dX6_measure_1 rfl hl (by decide) rfl (fun ls hl => ?_)
  exact w_X6_measure_2 C hT hnm hr FU _ _ _ (by decide) h ls (hl.sub [1, 0] rfl)
noncomputable def f_X6_count_26 (a0 : Option Nat) (x1 : Int) (x2 : Int) (t0 : Int) (u1 : Option Nat) (S : AS) : Option RS :=
  gd (isK S u1 7) <|
  cI (f_X6_refused u1 t0 0 S) fun v2 S1 =>
  if v2 = 0 then
    gd (isK S1 a0 7) <|
    cV (f_X6_measure a0 S1) fun S4 =>
    if x2 = 0 then
      (gR S4 a0 7 2).bind fun o7 =>
      (aI S4 o7 8 x1).bind fun v8 =>
      rI v8 S4
    else
    if x2 = 1 then
      (gR S4 a0 7 5).bind fun o9 =>
      (aI S4 o9 8 x1).bind fun v10 =>
      rI v10 S4
    else
    if x2 = 2 then
      (gR S4 a0 7 7).bind fun o11 =>
      (aI S4 o11 8 x1).bind fun v12 =>
      rI v12 S4
    else
    if x2 = 3 then
      gd (isK S4 a0 7) <|
      cI (f_X6_ownPins a0 x1 S4) fun v14 S13 =>
      rI v14 S13
    else
    if x2 = 4 then
      (gR S4 a0 7 26).bind fun o16 =>
      (aI S4 o16 8 x1).bind fun v17 =>
      rI v17 S4
    else
    (gR S4 a0 7 27).bind fun o18 =>
    (aI S4 o18 8 x1).bind fun v19 =>
    rI v19 S4
  else
    rI 0 S1
set_option maxHeartbeats 4000000 in
set_option maxRecDepth 100000 in
theorem w_X6_count_26 {p : Program} {l : Launch} {e : Env} {R : Room} {s : State} {m : MethodId} {args : Array Value} {below : List Frame} {meth : Method} {c : Code} {b : Nat} {D : va_G} {dA : Nat → ClassId} {S0 : AS} {q : RS} (C : hp_C p l e R s m args below meth c b D dA S0 RX6 cX6_count 3 7 42) (hT : ∀ x ∈ c.exceptionTable.toList, False) (hnm : meth.name = "count") (hr : meth.sig.returnType = (some .int)) : ∀ (a0 : Option Nat) (x1 : Int) (x2 : Int) (t0 : Int) (u1 : Option Nat) (S : AS), inR x1 → inR x2 → inR t0 → f_X6_count_26 a0 x1 x2 t0 u1 S = some q → ∀ ls : Array Slot, hp_L ls 3 [(0, rf b a0), (1, iv x1), (2, iv x2)] → hp_J p l e R s m args below meth c b D dA S0 (hp_Q below b D dA S0 1 q args s) S 26 ls [iv t0, rf b u1] := by
  have hst : l.stackTraces = false := C.2.2.2.2.2.2.2.2.2.2.1
  intro a0 x1 x2 t0 u1 S hx1 hx2 ht0 h ls hl
  unfold f_X6_count_26 at h
  refine j_iconst C dX6_count_26 ?_
  obtain ⟨c3, h⟩ := gd_some h
  rcases cI_some h with ⟨S1, v2, wv2, hc, h⟩ | ⟨hc, hne⟩
  · refine j_callI C (run_W (As := [iv t0, iv 0]) (rest := []) C (m_X6_refused hst ht0 (by decide) hc) cv_RX6_107 (by decide) rfl c3 rfl hl (by decide) (by decide) (by decide) dX6_count_27) (fun hv2 => ?_)
    refine j_if_eq (tgt := 35) C dX6_count_30 (by decide) hv2 (fun b1 => ?_) (fun b1 => ?_)
    · rw [if_pos b1] at h
      refine j_aload_n C dX6_count_35 rfl (hl.at 0 rfl) ?_
      obtain ⟨c6, h⟩ := gd_some h
      rcases cV_some h with ⟨S4, y5, hc, h⟩ | ⟨hc, hne⟩
      · refine j_callV C (run_W (As := []) (rest := []) C (m_X6_measure hst hc) cv_RX6_174 (by decide) rfl c6 rfl hl (by decide) (by decide) (by decide) dX6_count_36) ?_
        refine j_iload_n C dX6_count_39 rfl (hl.at 2 rfl) ?_
        by_cases b0 : x2 = 0
        · rw [if_pos b0] at h
          refine j_tabIn (tgt := 76) C dX6_count_40 hx2 b0 (by decide) (by decide) rfl (by decide) ?_
          refine j_aload_n C dX6_count_76 rfl (hl.at 0 rfl) ?_
          obtain ⟨o7, g_o7, h⟩ := bd h
          refine j_gR C dX6_count_77 fl_RX6_7 rfl g_o7 ?_
          refine j_iload_n C dX6_count_80 rfl (hl.at 1 rfl) ?_
          obtain ⟨v8, g_v8, h⟩ := bd h
          refine j_iald C dX6_count_81 hx1 g_v8 (fun hv8 => ?_)
          exact j_iret C dX6_count_82 hr hv8 h
        rw [if_neg b0] at h
        by_cases b1 : x2 = 1
        · rw [if_pos b1] at h
          refine j_tabIn (tgt := 83) C dX6_count_40 hx2 b1 (by decide) (by decide) rfl (by decide) ?_
          refine j_aload_n C dX6_count_83 rfl (hl.at 0 rfl) ?_
          obtain ⟨o9, g_o9, h⟩ := bd h
          refine j_gR C dX6_count_84 fl_RX6_20 rfl g_o9 ?_
          refine j_iload_n C dX6_count_87 rfl (hl.at 1 rfl) ?_
          obtain ⟨v10, g_v10, h⟩ := bd h
          refine j_iald C dX6_count_88 hx1 g_v10 (fun hv10 => ?_)
          exact j_iret C dX6_count_89 hr hv10 h
        rw [if_neg b1] at h
        by_cases b2 : x2 = 2
        · rw [if_pos b2] at h
          refine j_tabIn (tgt := 90) C dX6_count_40 hx2 b2 (by decide) (by decide) rfl (by decide) ?_
          refine j_aload_n C dX6_count_90 rfl (hl.at 0 rfl) ?_
          obtain ⟨o11, g_o11, h⟩ := bd h
          refine j_gR C dX6_count_91 fl_RX6_26 rfl g_o11 ?_
          refine j_iload_n C dX6_count_94 rfl (hl.at 1 rfl) ?_
          obtain ⟨v12, g_v12, h⟩ := bd h
          refine j_iald C dX6_count_95 hx1 g_v12 (fun hv12 => ?_)
          exact j_iret C dX6_count_96 hr hv12 h
        rw [if_neg b2] at h
        by_cases b3 : x2 = 3
        · rw [if_pos b3] at h
          refine j_tabIn (tgt := 97) C dX6_count_40 hx2 b3 (by decide) (by decide) rfl (by decide) ?_
          refine j_aload_n C dX6_count_97 rfl (hl.at 0 rfl) ?_
          refine j_iload_n C dX6_count_98 rfl (hl.at 1 rfl) ?_
          obtain ⟨c15, h⟩ := gd_some h
          rcases cI_some h with ⟨S13, v14, wv14, hc, h⟩ | ⟨hc, hne⟩
          · refine j_callI C (run_W (As := [iv x1]) (rest := []) C (m_X6_ownPins hst hx1 hc) cv_RX6_117 (by decide) rfl c15 rfl hl (by decide) (by decide) (by decide) dX6_count_99) (fun hv14 => ?_)
            exact j_iret C dX6_count_102 hr hv14 h
          · exact j_thrown C hT (run_W (As := [iv x1]) (rest := []) C (m_X6_ownPins hst hx1 hc) cv_RX6_117 (by decide) rfl c15 rfl hl (by decide) (by decide) (by decide) dX6_count_99) hne
        rw [if_neg b3] at h
        by_cases b4 : x2 = 4
        · rw [if_pos b4] at h
          refine j_tabIn (tgt := 103) C dX6_count_40 hx2 b4 (by decide) (by decide) rfl (by decide) ?_
          refine j_aload_n C dX6_count_103 rfl (hl.at 0 rfl) ?_
          obtain ⟨o16, g_o16, h⟩ := bd h
          refine j_gR C dX6_count_104 fl_RX6_76 rfl g_o16 ?_
          refine j_iload_n C dX6_count_107 rfl (hl.at 1 rfl) ?_
          obtain ⟨v17, g_v17, h⟩ := bd h
          refine j_iald C dX6_count_108 hx1 g_v17 (fun hv17 => ?_)
          exact j_iret C dX6_count_109 hr hv17 h
        rw [if_neg b4] at h
        refine j_tabOut (tgt := 110) C dX6_count_40 hx2 (by omega) (by decide) ?_
        refine j_aload_n C dX6_count_110 rfl (hl.at 0 rfl) ?_
        obtain ⟨o18, g_o18, h⟩ := bd h
        refine j_gR C dX6_count_111 fl_RX6_79 rfl g_o18 ?_
        refine j_iload_n C dX6_count_114 rfl (hl.at 1 rfl) ?_
        obtain ⟨v19, g_v19, h⟩ := bd h
        refine j_iald C dX6_count_115 hx1 g_v19 (fun hv19 => ?_)
        exact j_iret C dX6_count_116 hr hv19 h
      · exact j_thrown C hT (run_W (As := []) (rest := []) C (m_X6_measure hst hc) cv_RX6_174 (by decide) rfl c6 rfl hl (by decide) (by decide) (by decide) dX6_count_36) hne
    · rw [if_neg b1] at h
      refine j_iconst C dX6_count_33 ?_
      exact j_iret C dX6_count_34 hr (by decide) h
  · exact j_thrown C hT (run_W (As := [iv t0, iv 0]) (rest := []) C (m_X6_refused hst ht0 (by decide) hc) cv_RX6_107 (by decide) rfl c3 rfl hl (by decide) (by decide) (by decide) dX6_count_27) hne
noncomputable def f_X6_count_21 (a0 : Option Nat) (x1 : Int) (x2 : Int) (u0 : Option Nat) (S : AS) : Option RS :=
  f_X6_count_26 a0 x1 x2 1 u0 S
set_option maxHeartbeats 4000000 in
set_option maxRecDepth 100000 in
theorem w_X6_count_21 {p : Program} {l : Launch} {e : Env} {R : Room} {s : State} {m : MethodId} {args : Array Value} {below : List Frame} {meth : Method} {c : Code} {b : Nat} {D : va_G} {dA : Nat → ClassId} {S0 : AS} {q : RS} (C : hp_C p l e R s m args below meth c b D dA S0 RX6 cX6_count 3 7 42) (hT : ∀ x ∈ c.exceptionTable.toList, False) (hnm : meth.name = "count") (hr : meth.sig.returnType = (some .int)) : ∀ (a0 : Option Nat) (x1 : Int) (x2 : Int) (u0 : Option Nat) (S : AS), inR x1 → inR x2 → f_X6_count_21 a0 x1 x2 u0 S = some q → ∀ ls : Array Slot, hp_L ls 3 [(0, rf b a0), (1, iv x1), (2, iv x2)] → hp_J p l e R s m args below meth c b D dA S0 (hp_Q below b D dA S0 1 q args s) S 21 ls [rf b u0] := by
  have hst : l.stackTraces = false := C.2.2.2.2.2.2.2.2.2.2.1
  intro a0 x1 x2 u0 S hx1 hx2 h ls hl
  unfold f_X6_count_21 at h
  refine j_iconst C dX6_count_21 ?_
  refine j_goto (tgt := 26) C dX6_count_22 (by decide) ?_
  exact w_X6_count_26 C hT hnm hr _ _ _ _ _ _ hx1 hx2 (by decide) h ls (hl.sub [0, 1, 2] rfl)
noncomputable def f_X6_count (a0 : Option Nat) (x1 : Int) (x2 : Int) (S : AS) : Option RS :=
  (gI S a0 7 1).bind fun v1 =>
  cI (f_X6_isIn x1 v1 S) fun v3 S2 =>
  if v3 = 0 then
    f_X6_count_21 a0 x1 x2 a0 S2
  else
    cI (f_X6_isIn x2 6 S2) fun v5 S4 =>
    if v5 = 0 then
      f_X6_count_21 a0 x1 x2 a0 S4
    else
      f_X6_count_26 a0 x1 x2 0 a0 S4
set_option maxHeartbeats 4000000 in
set_option maxRecDepth 100000 in
theorem m_X6_count {l : Launch} {b : Nat} {D : va_G} {dA : Nat → ClassId} (hst : l.stackTraces = false) {a0 : Option Nat} {x1 : Int} {x2 : Int} {S : AS} {q : RS} (hx1 : inR x1) (hx2 : inR x2) (h : f_X6_count a0 x1 x2 S = some q) : hp_M l b D dA yX6_count cX6_count 3 (some .int) 7 42 [rf b a0, iv x1, iv x2] S 1 q := by
  have hcat : ∀ v ∈ ([rf b a0, iv x1, iv x2] : List Value), v.category = 1 := (by intro v hv; simp only [List.mem_cons, List.not_mem_nil, or_false] at hv; rcases hv with rfl | rfl | rfl <;> first | exact cat_iv _ | exact cat_rf _ _)
  refine hp_ofJ (own := RX6) hst (by decide +kernel) rfl hcat (Nat.le_of_ble_eq_true rfl) ?_
  intro p e R s m args below meth c C hT hnm hr ls hl9
  have hl : hp_L ls 3 [(0, rf b a0), (1, iv x1), (2, iv x2)] := hp_L.of hl9 hcat
  unfold f_X6_count at h
  refine j_aload_n C dX6_count_0 rfl (hl.at 0 rfl) ?_
  refine j_iload_n C dX6_count_1 rfl (hl.at 1 rfl) ?_
  refine j_aload_n C dX6_count_2 rfl (hl.at 0 rfl) ?_
  obtain ⟨v1, g_v1, h⟩ := bd h
  refine j_gI C dX6_count_3 fl_RX6_89 (Or.inl rfl) g_v1 (fun hv1 => ?_)
  rcases cI_some h with ⟨S2, v3, wv3, hc, h⟩ | ⟨hc, hne⟩
  · refine j_callI C (run_S (As := [iv x1, iv v1]) (rest := [rf b a0]) C (m_X6_isIn hst hx1 hv1 hc) cs_RX6_99 rfl hl.1.1 (by simp [cat_iv, cat_rf]) (by decide) (by decide) dX6_count_6) (fun hv3 => ?_)
    refine j_if_eq (tgt := 21) C dX6_count_9 (by decide) hv3 (fun b1 => ?_) (fun b1 => ?_)
    · rw [if_pos b1] at h
      exact w_X6_count_21 C hT hnm hr _ _ _ _ _ hx1 hx2 h ls (hl.sub [0, 1, 2] rfl)
    · rw [if_neg b1] at h
      refine j_iload_n C dX6_count_12 rfl (hl.at 2 rfl) ?_
      refine j_bipush (x := 6) C dX6_count_13 (by decide) ?_
      rcases cI_some h with ⟨S4, v5, wv5, hc, h⟩ | ⟨hc, hne⟩
      · refine j_callI C (run_S (As := [iv x2, iv 6]) (rest := [rf b a0]) C (m_X6_isIn hst hx2 (by decide) hc) cs_RX6_99 rfl hl.1.1 (by simp [cat_iv, cat_rf]) (by decide) (by decide) dX6_count_15) (fun hv5 => ?_)
        refine j_if_ne (tgt := 25) C dX6_count_18 (by decide) hv5 (fun b1 => ?_) (fun b1 => ?_)
        · rw [if_neg b1] at h
          refine j_iconst C dX6_count_25 ?_
          exact w_X6_count_26 C hT hnm hr _ _ _ _ _ _ hx1 hx2 (by decide) h ls (hl.sub [0, 1, 2] rfl)
        · rw [if_pos (Decidable.byContradiction b1)] at h
          exact w_X6_count_21 C hT hnm hr _ _ _ _ _ hx1 hx2 h ls (hl.sub [0, 1, 2] rfl)
      · exact j_thrown C hT (run_S (As := [iv x2, iv 6]) (rest := [rf b a0]) C (m_X6_isIn hst hx2 (by decide) hc) cs_RX6_99 rfl hl.1.1 (by simp [cat_iv, cat_rf]) (by decide) (by decide) dX6_count_15) hne
  · exact j_thrown C hT (run_S (As := [iv x1, iv v1]) (rest := [rf b a0]) C (m_X6_isIn hst hx1 hv1 hc) cs_RX6_99 rfl hl.1.1 (by simp [cat_iv, cat_rf]) (by decide) (by decide) dX6_count_6) hne
noncomputable def f_X6_moduleOf_40 (a0 : Option Nat) (x1 : Int) (x2 : Int) (t0 : Int) (u1 : Option Nat) (S : AS) : Option RS :=
  gd (isK S u1 7) <|
  cI (f_X6_refused u1 t0 0 S) fun v2 S1 =>
  if v2 = 0 then
    (gR S1 a0 7 6).bind fun o4 =>
    (chk (64 * x1)).bind fun z5 =>
    (chk (z5 + x2)).bind fun z6 =>
    (aI S1 o4 8 z6).bind fun v7 =>
    rI v7 S1
  else
    rI 0 S1
set_option maxHeartbeats 4000000 in
set_option maxRecDepth 100000 in
theorem w_X6_moduleOf_40 {p : Program} {l : Launch} {e : Env} {R : Room} {s : State} {m : MethodId} {args : Array Value} {below : List Frame} {meth : Method} {c : Code} {b : Nat} {D : va_G} {dA : Nat → ClassId} {S0 : AS} {q : RS} (C : hp_C p l e R s m args below meth c b D dA S0 RX6 cX6_moduleOf 4 7 38) (hT : ∀ x ∈ c.exceptionTable.toList, False) (hnm : meth.name = "moduleOf") (hr : meth.sig.returnType = (some .int)) : ∀ (a0 : Option Nat) (x1 : Int) (x2 : Int) (t0 : Int) (u1 : Option Nat) (S : AS), inR x1 → inR x2 → inR t0 → f_X6_moduleOf_40 a0 x1 x2 t0 u1 S = some q → ∀ ls : Array Slot, hp_L ls 4 [(0, rf b a0), (1, iv x1), (2, iv x2)] → hp_J p l e R s m args below meth c b D dA S0 (hp_Q below b D dA S0 1 q args s) S 40 ls [iv t0, rf b u1] := by
  have hst : l.stackTraces = false := C.2.2.2.2.2.2.2.2.2.2.1
  intro a0 x1 x2 t0 u1 S hx1 hx2 ht0 h ls hl
  unfold f_X6_moduleOf_40 at h
  refine j_iconst C dX6_moduleOf_40 ?_
  obtain ⟨c3, h⟩ := gd_some h
  rcases cI_some h with ⟨S1, v2, wv2, hc, h⟩ | ⟨hc, hne⟩
  · refine j_callI C (run_W (As := [iv t0, iv 0]) (rest := []) C (m_X6_refused hst ht0 (by decide) hc) cv_RX6_107 (by decide) rfl c3 rfl hl (by decide) (by decide) (by decide) dX6_moduleOf_41) (fun hv2 => ?_)
    refine j_if_eq (tgt := 51) C dX6_moduleOf_44 (by decide) hv2 (fun b1 => ?_) (fun b1 => ?_)
    · rw [if_pos b1] at h
      refine j_aload_n C dX6_moduleOf_51 rfl (hl.at 0 rfl) ?_
      obtain ⟨o4, g_o4, h⟩ := bd h
      refine j_gR C dX6_moduleOf_52 fl_RX6_23 rfl g_o4 ?_
      refine j_bipush (x := 64) C dX6_moduleOf_55 (by decide) ?_
      refine j_iload_n C dX6_moduleOf_57 rfl (hl.at 1 rfl) ?_
      obtain ⟨z5, g_z5, h⟩ := bd h
      refine j_imul C dX6_moduleOf_58 g_z5 (fun hz5 => ?_)
      refine j_iload_n C dX6_moduleOf_59 rfl (hl.at 2 rfl) ?_
      obtain ⟨z6, g_z6, h⟩ := bd h
      refine j_iadd C dX6_moduleOf_60 g_z6 (fun hz6 => ?_)
      obtain ⟨v7, g_v7, h⟩ := bd h
      refine j_iald C dX6_moduleOf_61 hz6 g_v7 (fun hv7 => ?_)
      exact j_iret C dX6_moduleOf_62 hr hv7 h
    · rw [if_neg b1] at h
      refine j_iconst C dX6_moduleOf_47 ?_
      refine j_goto (tgt := 62) C dX6_moduleOf_48 (by decide) ?_
      exact j_iret C dX6_moduleOf_62 hr (by decide) h
  · exact j_thrown C hT (run_W (As := [iv t0, iv 0]) (rest := []) C (m_X6_refused hst ht0 (by decide) hc) cv_RX6_107 (by decide) rfl c3 rfl hl (by decide) (by decide) (by decide) dX6_moduleOf_41) hne
noncomputable def f_X6_moduleOf_29 (a0 : Option Nat) (x1 : Int) (x2 : Int) (t0 : Int) (S : AS) : Option RS :=
  if t0 = 0 then
    f_X6_moduleOf_40 a0 x1 x2 1 a0 S
  else
    f_X6_moduleOf_40 a0 x1 x2 0 a0 S
set_option maxHeartbeats 4000000 in
set_option maxRecDepth 100000 in
theorem w_X6_moduleOf_29 {p : Program} {l : Launch} {e : Env} {R : Room} {s : State} {m : MethodId} {args : Array Value} {below : List Frame} {meth : Method} {c : Code} {b : Nat} {D : va_G} {dA : Nat → ClassId} {S0 : AS} {q : RS} (C : hp_C p l e R s m args below meth c b D dA S0 RX6 cX6_moduleOf 4 7 38) (hT : ∀ x ∈ c.exceptionTable.toList, False) (hnm : meth.name = "moduleOf") (hr : meth.sig.returnType = (some .int)) : ∀ (a0 : Option Nat) (x1 : Int) (x2 : Int) (t0 : Int) (S : AS), inR x1 → inR x2 → inR t0 → f_X6_moduleOf_29 a0 x1 x2 t0 S = some q → ∀ ls : Array Slot, hp_L ls 4 [(0, rf b a0), (1, iv x1), (2, iv x2)] → hp_J p l e R s m args below meth c b D dA S0 (hp_Q below b D dA S0 1 q args s) S 29 ls [iv t0] := by
  have hst : l.stackTraces = false := C.2.2.2.2.2.2.2.2.2.2.1
  intro a0 x1 x2 t0 S hx1 hx2 ht0 h ls hl
  unfold f_X6_moduleOf_29 at h
  refine k_istore_n (lv' := [(3, iv t0), (0, rf b a0), (1, iv x1), (2, iv x2)]) C dX6_moduleOf_29 rfl hl (by decide) rfl (fun ls hl => ?_)
  refine j_aload_n C dX6_moduleOf_30 rfl (hl.at 1 rfl) ?_
  refine j_iload_n C dX6_moduleOf_31 rfl (hl.at 0 rfl) ?_
  refine j_if_ne (tgt := 39) C dX6_moduleOf_32 (by decide) ht0 (fun b1 => ?_) (fun b1 => ?_)
  · rw [if_neg b1] at h
    refine j_iconst C dX6_moduleOf_39 ?_
    exact w_X6_moduleOf_40 C hT hnm hr _ _ _ _ _ _ hx1 hx2 (by decide) h ls (hl.sub [1, 2, 3] rfl)
  · rw [if_pos (Decidable.byContradiction b1)] at h
    refine j_iconst C dX6_moduleOf_35 ?_
    refine j_goto (tgt := 40) C dX6_moduleOf_36 (by decide) ?_
    exact w_X6_moduleOf_40 C hT hnm hr _ _ _ _ _ _ hx1 hx2 (by decide) h ls (hl.sub [1, 2, 3] rfl)
noncomputable def f_X6_moduleOf_28 (a0 : Option Nat) (x1 : Int) (x2 : Int) (S : AS) : Option RS :=
  f_X6_moduleOf_29 a0 x1 x2 0 S
set_option maxHeartbeats 4000000 in
set_option maxRecDepth 100000 in
theorem w_X6_moduleOf_28 {p : Program} {l : Launch} {e : Env} {R : Room} {s : State} {m : MethodId} {args : Array Value} {below : List Frame} {meth : Method} {c : Code} {b : Nat} {D : va_G} {dA : Nat → ClassId} {S0 : AS} {q : RS} (C : hp_C p l e R s m args below meth c b D dA S0 RX6 cX6_moduleOf 4 7 38) (hT : ∀ x ∈ c.exceptionTable.toList, False) (hnm : meth.name = "moduleOf") (hr : meth.sig.returnType = (some .int)) : ∀ (a0 : Option Nat) (x1 : Int) (x2 : Int) (S : AS), inR x1 → inR x2 → f_X6_moduleOf_28 a0 x1 x2 S = some q → ∀ ls : Array Slot, hp_L ls 4 [(0, rf b a0), (1, iv x1), (2, iv x2)] → hp_J p l e R s m args below meth c b D dA S0 (hp_Q below b D dA S0 1 q args s) S 28 ls [] := by
  have hst : l.stackTraces = false := C.2.2.2.2.2.2.2.2.2.2.1
  intro a0 x1 x2 S hx1 hx2 h ls hl
  unfold f_X6_moduleOf_28 at h
  refine j_iconst C dX6_moduleOf_28 ?_
  exact w_X6_moduleOf_29 C hT hnm hr _ _ _ _ _ hx1 hx2 (by decide) h ls (hl.sub [0, 1, 2] rfl)
noncomputable def f_X6_moduleOf (a0 : Option Nat) (x1 : Int) (x2 : Int) (S : AS) : Option RS :=
  (gI S a0 7 1).bind fun v1 =>
  cI (f_X6_isIn x1 v1 S) fun v3 S2 =>
  if v3 = 0 then
    f_X6_moduleOf_28 a0 x1 x2 S2
  else
    (gR S2 a0 7 5).bind fun o4 =>
    (aI S2 o4 8 x1).bind fun v5 =>
    cI (f_X6_isIn x2 v5 S2) fun v7 S6 =>
    if v7 = 0 then
      f_X6_moduleOf_28 a0 x1 x2 S6
    else
      f_X6_moduleOf_29 a0 x1 x2 1 S6
set_option maxHeartbeats 4000000 in
set_option maxRecDepth 100000 in
theorem m_X6_moduleOf {l : Launch} {b : Nat} {D : va_G} {dA : Nat → ClassId} (hst : l.stackTraces = false) {a0 : Option Nat} {x1 : Int} {x2 : Int} {S : AS} {q : RS} (hx1 : inR x1) (hx2 : inR x2) (h : f_X6_moduleOf a0 x1 x2 S = some q) : hp_M l b D dA yX6_moduleOf cX6_moduleOf 4 (some .int) 7 38 [rf b a0, iv x1, iv x2] S 1 q := by
  have hcat : ∀ v ∈ ([rf b a0, iv x1, iv x2] : List Value), v.category = 1 := (by intro v hv; simp only [List.mem_cons, List.not_mem_nil, or_false] at hv; rcases hv with rfl | rfl | rfl <;> first | exact cat_iv _ | exact cat_rf _ _)
  refine hp_ofJ (own := RX6) hst (by decide +kernel) rfl hcat (Nat.le_of_ble_eq_true rfl) ?_
  intro p e R s m args below meth c C hT hnm hr ls hl9
  have hl : hp_L ls 4 [(0, rf b a0), (1, iv x1), (2, iv x2)] := hp_L.of hl9 hcat
  unfold f_X6_moduleOf at h
  refine j_iload_n C dX6_moduleOf_0 rfl (hl.at 1 rfl) ?_
  refine j_aload_n C dX6_moduleOf_1 rfl (hl.at 0 rfl) ?_
  obtain ⟨v1, g_v1, h⟩ := bd h
  refine j_gI C dX6_moduleOf_2 fl_RX6_89 (Or.inl rfl) g_v1 (fun hv1 => ?_)
  rcases cI_some h with ⟨S2, v3, wv3, hc, h⟩ | ⟨hc, hne⟩
  · refine j_callI C (run_S (As := [iv x1, iv v1]) (rest := []) C (m_X6_isIn hst hx1 hv1 hc) cs_RX6_99 rfl hl.1.1 (by decide) (by decide) (by decide) dX6_moduleOf_5) (fun hv3 => ?_)
    refine j_if_eq (tgt := 28) C dX6_moduleOf_8 (by decide) hv3 (fun b1 => ?_) (fun b1 => ?_)
    · rw [if_pos b1] at h
      exact w_X6_moduleOf_28 C hT hnm hr _ _ _ _ hx1 hx2 h ls (hl.sub [0, 1, 2] rfl)
    · rw [if_neg b1] at h
      refine j_iload_n C dX6_moduleOf_11 rfl (hl.at 2 rfl) ?_
      refine j_aload_n C dX6_moduleOf_12 rfl (hl.at 0 rfl) ?_
      obtain ⟨o4, g_o4, h⟩ := bd h
      refine j_gR C dX6_moduleOf_13 fl_RX6_20 rfl g_o4 ?_
      refine j_iload_n C dX6_moduleOf_16 rfl (hl.at 1 rfl) ?_
      obtain ⟨v5, g_v5, h⟩ := bd h
      refine j_iald C dX6_moduleOf_17 hx1 g_v5 (fun hv5 => ?_)
      rcases cI_some h with ⟨S6, v7, wv7, hc, h⟩ | ⟨hc, hne⟩
      · refine j_callI C (run_S (As := [iv x2, iv v5]) (rest := []) C (m_X6_isIn hst hx2 hv5 hc) cs_RX6_99 rfl hl.1.1 (by decide) (by decide) (by decide) dX6_moduleOf_18) (fun hv7 => ?_)
        refine j_if_eq (tgt := 28) C dX6_moduleOf_21 (by decide) hv7 (fun b1 => ?_) (fun b1 => ?_)
        · rw [if_pos b1] at h
          exact w_X6_moduleOf_28 C hT hnm hr _ _ _ _ hx1 hx2 h ls (hl.sub [0, 1, 2] rfl)
        · rw [if_neg b1] at h
          refine j_iconst C dX6_moduleOf_24 ?_
          refine j_goto (tgt := 29) C dX6_moduleOf_25 (by decide) ?_
          exact w_X6_moduleOf_29 C hT hnm hr _ _ _ _ _ hx1 hx2 (by decide) h ls (hl.sub [0, 1, 2] rfl)
      · exact j_thrown C hT (run_S (As := [iv x2, iv v5]) (rest := []) C (m_X6_isIn hst hx2 hv5 hc) cs_RX6_99 rfl hl.1.1 (by decide) (by decide) (by decide) dX6_moduleOf_18) hne
  · exact j_thrown C hT (run_S (As := [iv x1, iv v1]) (rest := []) C (m_X6_isIn hst hx1 hv1 hc) cs_RX6_99 rfl hl.1.1 (by decide) (by decide) (by decide) dX6_moduleOf_5) hne
noncomputable def f_X6_modules (a0 : Option Nat) (S : AS) : Option RS :=
  (pI S a0 7 0 0).bind fun S1 =>
  (gI S1 a0 7 1).bind fun v2 =>
  rI v2 S1
set_option maxHeartbeats 4000000 in
set_option maxRecDepth 100000 in
theorem m_X6_modules {l : Launch} {b : Nat} {D : va_G} {dA : Nat → ClassId} (hst : l.stackTraces = false) {a0 : Option Nat} {S : AS} {q : RS} (h : f_X6_modules a0 S = some q) : hp_M l b D dA yX6_modules cX6_modules 1 (some .int) 6 16 [rf b a0] S 1 q := by
  have hcat : ∀ v ∈ ([rf b a0] : List Value), v.category = 1 := (by intro v hv; simp only [List.mem_cons, List.not_mem_nil, or_false] at hv; rcases hv with rfl <;> first | exact cat_iv _ | exact cat_rf _ _)
  refine hp_ofJ (own := RX6) hst (by decide +kernel) rfl hcat (Nat.le_of_ble_eq_true rfl) ?_
  intro p e R s m args below meth c C hT hnm hr ls hl9
  have hl : hp_L ls 1 [(0, rf b a0)] := hp_L.of hl9 hcat
  unfold f_X6_modules at h
  refine j_aload_n C dX6_modules_0 rfl (hl.at 0 rfl) ?_
  refine j_iconst C dX6_modules_1 ?_
  obtain ⟨S1, g_S1, h⟩ := bd h
  refine j_pI C dX6_modules_2 fl_RX6_85 (Or.inl rfl) rfl (by decide) g_S1 ?_
  refine j_aload_n C dX6_modules_5 rfl (hl.at 0 rfl) ?_
  obtain ⟨v2, g_v2, h⟩ := bd h
  refine j_gI C dX6_modules_6 fl_RX6_89 (Or.inl rfl) g_v2 (fun hv2 => ?_)
  exact j_iret C dX6_modules_9 hr hv2 h
noncomputable def f_X6_clear (a0 : Option Nat) (S : AS) : Option RS :=
  (pI S a0 7 0 0).bind fun S1 =>
  (pI S1 a0 7 1 0).bind fun S2 =>
  rV S2
set_option maxHeartbeats 4000000 in
set_option maxRecDepth 100000 in
theorem m_X6_clear {l : Launch} {b : Nat} {D : va_G} {dA : Nat → ClassId} (hst : l.stackTraces = false) {a0 : Option Nat} {S : AS} {q : RS} (h : f_X6_clear a0 S = some q) : hp_M l b D dA yX6_clear cX6_clear 1 none 6 16 [rf b a0] S 0 q := by
  have hcat : ∀ v ∈ ([rf b a0] : List Value), v.category = 1 := (by intro v hv; simp only [List.mem_cons, List.not_mem_nil, or_false] at hv; rcases hv with rfl <;> first | exact cat_iv _ | exact cat_rf _ _)
  refine hp_ofJ (own := RX6) hst (by decide +kernel) rfl hcat (Nat.le_of_ble_eq_true rfl) ?_
  intro p e R s m args below meth c C hT hnm hr ls hl9
  have hl : hp_L ls 1 [(0, rf b a0)] := hp_L.of hl9 hcat
  unfold f_X6_clear at h
  refine j_aload_n C dX6_clear_0 rfl (hl.at 0 rfl) ?_
  refine j_iconst C dX6_clear_1 ?_
  obtain ⟨S1, g_S1, h⟩ := bd h
  refine j_pI C dX6_clear_2 fl_RX6_85 (Or.inl rfl) rfl (by decide) g_S1 ?_
  refine j_aload_n C dX6_clear_5 rfl (hl.at 0 rfl) ?_
  refine j_iconst C dX6_clear_6 ?_
  obtain ⟨S2, g_S2, h⟩ := bd h
  refine j_pI C dX6_clear_7 fl_RX6_89 (Or.inl rfl) rfl (by decide) g_S2 ?_
  exact j_vret C dX6_clear_10 hr h
noncomputable def f_X6_init (a0 : Option Nat) (S : AS) : Option RS :=
  gd a0.isSome <|
  (nA S 8 24).bind fun S2 =>
  (pR S2 a0 7 2 (some (hn S))).bind fun S3 =>
  (nA S3 8 384).bind fun S4 =>
  (pR S4 a0 7 3 (some (hn S3))).bind fun S5 =>
  (nA S5 9 384).bind fun S6 =>
  (pR S6 a0 7 4 (some (hn S5))).bind fun S7 =>
  (nA S7 8 24).bind fun S8 =>
  (pR S8 a0 7 5 (some (hn S7))).bind fun S9 =>
  (nA S9 8 1536).bind fun S10 =>
  (pR S10 a0 7 6 (some (hn S9))).bind fun S11 =>
  (nA S11 8 24).bind fun S12 =>
  (pR S12 a0 7 7 (some (hn S11))).bind fun S13 =>
  (nA S13 8 24).bind fun S14 =>
  (pR S14 a0 7 8 (some (hn S13))).bind fun S15 =>
  (nA S15 8 199680).bind fun S16 =>
  (pR S16 a0 7 10 (some (hn S15))).bind fun S17 =>
  (nA S17 8 1536).bind fun S18 =>
  (pR S18 a0 7 11 (some (hn S17))).bind fun S19 =>
  (nA S19 8 36864).bind fun S20 =>
  (pR S20 a0 7 12 (some (hn S19))).bind fun S21 =>
  (nA S21 8 2000).bind fun S22 =>
  (pR S22 a0 7 14 (some (hn S21))).bind fun S23 =>
  (nA S23 8 2000).bind fun S24 =>
  (pR S24 a0 7 15 (some (hn S23))).bind fun S25 =>
  (nA S25 8 2000).bind fun S26 =>
  (pR S26 a0 7 16 (some (hn S25))).bind fun S27 =>
  (nA S27 8 2001).bind fun S28 =>
  (pR S28 a0 7 17 (some (hn S27))).bind fun S29 =>
  (nA S29 8 65).bind fun S30 =>
  (pR S30 a0 7 19 (some (hn S29))).bind fun S31 =>
  (nA S31 8 65).bind fun S32 =>
  (pR S32 a0 7 20 (some (hn S31))).bind fun S33 =>
  (nA S33 8 30).bind fun S34 =>
  (pR S34 a0 7 21 (some (hn S33))).bind fun S35 =>
  (nA S35 8 30).bind fun S36 =>
  (pR S36 a0 7 22 (some (hn S35))).bind fun S37 =>
  (nA S37 8 3001).bind fun S38 =>
  (pR S38 a0 7 23 (some (hn S37))).bind fun S39 =>
  (nA S39 8 3001).bind fun S40 =>
  (pR S40 a0 7 24 (some (hn S39))).bind fun S41 =>
  (nA S41 9 576).bind fun S42 =>
  (pR S42 a0 7 25 (some (hn S41))).bind fun S43 =>
  (nA S43 8 24).bind fun S44 =>
  (pR S44 a0 7 26 (some (hn S43))).bind fun S45 =>
  (nA S45 8 24).bind fun S46 =>
  (pR S46 a0 7 27 (some (hn S45))).bind fun S47 =>
  gd (isK S47 a0 7) <|
  cV (f_X6_clear a0 S47) fun S48 =>
  rV S48
set_option maxHeartbeats 4000000 in
set_option maxRecDepth 100000 in
theorem m_X6_init {l : Launch} {b : Nat} {D : va_G} {dA : Nat → ClassId} (hst : l.stackTraces = false) {a0 : Option Nat} {S : AS} {q : RS} (h : f_X6_init a0 S = some q) : hp_M l b D dA yX6_init cX6_init 1 none 7 36 [rf b a0] S 0 q := by
  have hcat : ∀ v ∈ ([rf b a0] : List Value), v.category = 1 := (by intro v hv; simp only [List.mem_cons, List.not_mem_nil, or_false] at hv; rcases hv with rfl <;> first | exact cat_iv _ | exact cat_rf _ _)
  refine hp_ofJ (own := RX6) hst (by decide +kernel) rfl hcat (Nat.le_of_ble_eq_true rfl) ?_
  intro p e R s m args below meth c C hT hnm hr ls hl9
  have hl : hp_L ls 1 [(0, rf b a0)] := hp_L.of hl9 hcat
  unfold f_X6_init at h
  refine j_aload_n C dX6_init_0 rfl (hl.at 0 rfl) ?_
  obtain ⟨c1, h⟩ := gd_some h
  refine j_objInit C dX6_init_1 c1 oi_RX6_1 oi_1 oi_2 hl.1.1 (by decide) (by decide) ?_
  refine j_aload_n C dX6_init_4 rfl (hl.at 0 rfl) ?_
  refine j_bipush (x := 24) C dX6_init_5 (by decide) ?_
  obtain ⟨S2, g_S2, h⟩ := bd h
  refine j_newa C dX6_init_7 (Or.inl ⟨rfl, rfl⟩) ac_8 (by decide) g_S2 ?_
  obtain ⟨S3, g_S3, h⟩ := bd h
  refine j_pR C dX6_init_9 fl_RX6_7 (Or.inr ⟨rfl, hnm, rfl⟩) rfl g_S3 ?_
  refine j_aload_n C dX6_init_12 rfl (hl.at 0 rfl) ?_
  refine j_sipush (x := 384) C dX6_init_13 (by decide) ?_
  obtain ⟨S4, g_S4, h⟩ := bd h
  refine j_newa C dX6_init_16 (Or.inl ⟨rfl, rfl⟩) ac_8 (by decide) g_S4 ?_
  obtain ⟨S5, g_S5, h⟩ := bd h
  refine j_pR C dX6_init_18 fl_RX6_13 (Or.inr ⟨rfl, hnm, rfl⟩) rfl g_S5 ?_
  refine j_aload_n C dX6_init_21 rfl (hl.at 0 rfl) ?_
  refine j_sipush (x := 384) C dX6_init_22 (by decide) ?_
  obtain ⟨S6, g_S6, h⟩ := bd h
  refine j_newa C dX6_init_25 (Or.inr (Or.inl ⟨rfl, rfl⟩)) ac_9 (by decide) g_S6 ?_
  obtain ⟨S7, g_S7, h⟩ := bd h
  refine j_pR C dX6_init_27 fl_RX6_16 (Or.inr ⟨rfl, hnm, rfl⟩) rfl g_S7 ?_
  refine j_aload_n C dX6_init_30 rfl (hl.at 0 rfl) ?_
  refine j_bipush (x := 24) C dX6_init_31 (by decide) ?_
  obtain ⟨S8, g_S8, h⟩ := bd h
  refine j_newa C dX6_init_33 (Or.inl ⟨rfl, rfl⟩) ac_8 (by decide) g_S8 ?_
  obtain ⟨S9, g_S9, h⟩ := bd h
  refine j_pR C dX6_init_35 fl_RX6_20 (Or.inr ⟨rfl, hnm, rfl⟩) rfl g_S9 ?_
  refine j_aload_n C dX6_init_38 rfl (hl.at 0 rfl) ?_
  refine j_sipush (x := 1536) C dX6_init_39 (by decide) ?_
  obtain ⟨S10, g_S10, h⟩ := bd h
  refine j_newa C dX6_init_42 (Or.inl ⟨rfl, rfl⟩) ac_8 (by decide) g_S10 ?_
  obtain ⟨S11, g_S11, h⟩ := bd h
  refine j_pR C dX6_init_44 fl_RX6_23 (Or.inr ⟨rfl, hnm, rfl⟩) rfl g_S11 ?_
  refine j_aload_n C dX6_init_47 rfl (hl.at 0 rfl) ?_
  refine j_bipush (x := 24) C dX6_init_48 (by decide) ?_
  obtain ⟨S12, g_S12, h⟩ := bd h
  refine j_newa C dX6_init_50 (Or.inl ⟨rfl, rfl⟩) ac_8 (by decide) g_S12 ?_
  obtain ⟨S13, g_S13, h⟩ := bd h
  refine j_pR C dX6_init_52 fl_RX6_26 (Or.inr ⟨rfl, hnm, rfl⟩) rfl g_S13 ?_
  refine j_aload_n C dX6_init_55 rfl (hl.at 0 rfl) ?_
  refine j_bipush (x := 24) C dX6_init_56 (by decide) ?_
  obtain ⟨S14, g_S14, h⟩ := bd h
  refine j_newa C dX6_init_58 (Or.inl ⟨rfl, rfl⟩) ac_8 (by decide) g_S14 ?_
  obtain ⟨S15, g_S15, h⟩ := bd h
  refine j_pR C dX6_init_60 fl_RX6_29 (Or.inr ⟨rfl, hnm, rfl⟩) rfl g_S15 ?_
  refine j_aload_n C dX6_init_63 rfl (hl.at 0 rfl) ?_
  refine j_ldc (x := 199680) C dX6_init_64 kn_RX6_32 ?_
  obtain ⟨S16, g_S16, h⟩ := bd h
  refine j_newa C dX6_init_66 (Or.inl ⟨rfl, rfl⟩) ac_8 (by decide) g_S16 ?_
  obtain ⟨S17, g_S17, h⟩ := bd h
  refine j_pR C dX6_init_68 fl_RX6_33 (Or.inr ⟨rfl, hnm, rfl⟩) rfl g_S17 ?_
  refine j_aload_n C dX6_init_71 rfl (hl.at 0 rfl) ?_
  refine j_sipush (x := 1536) C dX6_init_72 (by decide) ?_
  obtain ⟨S18, g_S18, h⟩ := bd h
  refine j_newa C dX6_init_75 (Or.inl ⟨rfl, rfl⟩) ac_8 (by decide) g_S18 ?_
  obtain ⟨S19, g_S19, h⟩ := bd h
  refine j_pR C dX6_init_77 fl_RX6_36 (Or.inr ⟨rfl, hnm, rfl⟩) rfl g_S19 ?_
  refine j_aload_n C dX6_init_80 rfl (hl.at 0 rfl) ?_
  refine j_ldc (x := 36864) C dX6_init_81 kn_RX6_39 ?_
  obtain ⟨S20, g_S20, h⟩ := bd h
  refine j_newa C dX6_init_83 (Or.inl ⟨rfl, rfl⟩) ac_8 (by decide) g_S20 ?_
  obtain ⟨S21, g_S21, h⟩ := bd h
  refine j_pR C dX6_init_85 fl_RX6_40 (Or.inr ⟨rfl, hnm, rfl⟩) rfl g_S21 ?_
  refine j_aload_n C dX6_init_88 rfl (hl.at 0 rfl) ?_
  refine j_sipush (x := 2000) C dX6_init_89 (by decide) ?_
  obtain ⟨S22, g_S22, h⟩ := bd h
  refine j_newa C dX6_init_92 (Or.inl ⟨rfl, rfl⟩) ac_8 (by decide) g_S22 ?_
  obtain ⟨S23, g_S23, h⟩ := bd h
  refine j_pR C dX6_init_94 fl_RX6_43 (Or.inr ⟨rfl, hnm, rfl⟩) rfl g_S23 ?_
  refine j_aload_n C dX6_init_97 rfl (hl.at 0 rfl) ?_
  refine j_sipush (x := 2000) C dX6_init_98 (by decide) ?_
  obtain ⟨S24, g_S24, h⟩ := bd h
  refine j_newa C dX6_init_101 (Or.inl ⟨rfl, rfl⟩) ac_8 (by decide) g_S24 ?_
  obtain ⟨S25, g_S25, h⟩ := bd h
  refine j_pR C dX6_init_103 fl_RX6_46 (Or.inr ⟨rfl, hnm, rfl⟩) rfl g_S25 ?_
  refine j_aload_n C dX6_init_106 rfl (hl.at 0 rfl) ?_
  refine j_sipush (x := 2000) C dX6_init_107 (by decide) ?_
  obtain ⟨S26, g_S26, h⟩ := bd h
  refine j_newa C dX6_init_110 (Or.inl ⟨rfl, rfl⟩) ac_8 (by decide) g_S26 ?_
  obtain ⟨S27, g_S27, h⟩ := bd h
  refine j_pR C dX6_init_112 fl_RX6_49 (Or.inr ⟨rfl, hnm, rfl⟩) rfl g_S27 ?_
  refine j_aload_n C dX6_init_115 rfl (hl.at 0 rfl) ?_
  refine j_sipush (x := 2001) C dX6_init_116 (by decide) ?_
  obtain ⟨S28, g_S28, h⟩ := bd h
  refine j_newa C dX6_init_119 (Or.inl ⟨rfl, rfl⟩) ac_8 (by decide) g_S28 ?_
  obtain ⟨S29, g_S29, h⟩ := bd h
  refine j_pR C dX6_init_121 fl_RX6_52 (Or.inr ⟨rfl, hnm, rfl⟩) rfl g_S29 ?_
  refine j_aload_n C dX6_init_124 rfl (hl.at 0 rfl) ?_
  refine j_bipush (x := 65) C dX6_init_125 (by decide) ?_
  obtain ⟨S30, g_S30, h⟩ := bd h
  refine j_newa C dX6_init_127 (Or.inl ⟨rfl, rfl⟩) ac_8 (by decide) g_S30 ?_
  obtain ⟨S31, g_S31, h⟩ := bd h
  refine j_pR C dX6_init_129 fl_RX6_55 (Or.inr ⟨rfl, hnm, rfl⟩) rfl g_S31 ?_
  refine j_aload_n C dX6_init_132 rfl (hl.at 0 rfl) ?_
  refine j_bipush (x := 65) C dX6_init_133 (by decide) ?_
  obtain ⟨S32, g_S32, h⟩ := bd h
  refine j_newa C dX6_init_135 (Or.inl ⟨rfl, rfl⟩) ac_8 (by decide) g_S32 ?_
  obtain ⟨S33, g_S33, h⟩ := bd h
  refine j_pR C dX6_init_137 fl_RX6_58 (Or.inr ⟨rfl, hnm, rfl⟩) rfl g_S33 ?_
  refine j_aload_n C dX6_init_140 rfl (hl.at 0 rfl) ?_
  refine j_bipush (x := 30) C dX6_init_141 (by decide) ?_
  obtain ⟨S34, g_S34, h⟩ := bd h
  refine j_newa C dX6_init_143 (Or.inl ⟨rfl, rfl⟩) ac_8 (by decide) g_S34 ?_
  obtain ⟨S35, g_S35, h⟩ := bd h
  refine j_pR C dX6_init_145 fl_RX6_61 (Or.inr ⟨rfl, hnm, rfl⟩) rfl g_S35 ?_
  refine j_aload_n C dX6_init_148 rfl (hl.at 0 rfl) ?_
  refine j_bipush (x := 30) C dX6_init_149 (by decide) ?_
  obtain ⟨S36, g_S36, h⟩ := bd h
  refine j_newa C dX6_init_151 (Or.inl ⟨rfl, rfl⟩) ac_8 (by decide) g_S36 ?_
  obtain ⟨S37, g_S37, h⟩ := bd h
  refine j_pR C dX6_init_153 fl_RX6_64 (Or.inr ⟨rfl, hnm, rfl⟩) rfl g_S37 ?_
  refine j_aload_n C dX6_init_156 rfl (hl.at 0 rfl) ?_
  refine j_sipush (x := 3001) C dX6_init_157 (by decide) ?_
  obtain ⟨S38, g_S38, h⟩ := bd h
  refine j_newa C dX6_init_160 (Or.inl ⟨rfl, rfl⟩) ac_8 (by decide) g_S38 ?_
  obtain ⟨S39, g_S39, h⟩ := bd h
  refine j_pR C dX6_init_162 fl_RX6_67 (Or.inr ⟨rfl, hnm, rfl⟩) rfl g_S39 ?_
  refine j_aload_n C dX6_init_165 rfl (hl.at 0 rfl) ?_
  refine j_sipush (x := 3001) C dX6_init_166 (by decide) ?_
  obtain ⟨S40, g_S40, h⟩ := bd h
  refine j_newa C dX6_init_169 (Or.inl ⟨rfl, rfl⟩) ac_8 (by decide) g_S40 ?_
  obtain ⟨S41, g_S41, h⟩ := bd h
  refine j_pR C dX6_init_171 fl_RX6_70 (Or.inr ⟨rfl, hnm, rfl⟩) rfl g_S41 ?_
  refine j_aload_n C dX6_init_174 rfl (hl.at 0 rfl) ?_
  refine j_sipush (x := 576) C dX6_init_175 (by decide) ?_
  obtain ⟨S42, g_S42, h⟩ := bd h
  refine j_newa C dX6_init_178 (Or.inr (Or.inl ⟨rfl, rfl⟩)) ac_9 (by decide) g_S42 ?_
  obtain ⟨S43, g_S43, h⟩ := bd h
  refine j_pR C dX6_init_180 fl_RX6_73 (Or.inr ⟨rfl, hnm, rfl⟩) rfl g_S43 ?_
  refine j_aload_n C dX6_init_183 rfl (hl.at 0 rfl) ?_
  refine j_bipush (x := 24) C dX6_init_184 (by decide) ?_
  obtain ⟨S44, g_S44, h⟩ := bd h
  refine j_newa C dX6_init_186 (Or.inl ⟨rfl, rfl⟩) ac_8 (by decide) g_S44 ?_
  obtain ⟨S45, g_S45, h⟩ := bd h
  refine j_pR C dX6_init_188 fl_RX6_76 (Or.inr ⟨rfl, hnm, rfl⟩) rfl g_S45 ?_
  refine j_aload_n C dX6_init_191 rfl (hl.at 0 rfl) ?_
  refine j_bipush (x := 24) C dX6_init_192 (by decide) ?_
  obtain ⟨S46, g_S46, h⟩ := bd h
  refine j_newa C dX6_init_194 (Or.inl ⟨rfl, rfl⟩) ac_8 (by decide) g_S46 ?_
  obtain ⟨S47, g_S47, h⟩ := bd h
  refine j_pR C dX6_init_196 fl_RX6_79 (Or.inr ⟨rfl, hnm, rfl⟩) rfl g_S47 ?_
  refine j_aload_n C dX6_init_199 rfl (hl.at 0 rfl) ?_
  obtain ⟨c50, h⟩ := gd_some h
  rcases cV_some h with ⟨S48, y49, hc, h⟩ | ⟨hc, hne⟩
  · refine j_callV C (run_W (As := []) (rest := []) C (m_X6_clear hst hc) cv_RX6_82 (by decide) rfl c50 rfl hl (by decide) (by decide) (by decide) dX6_init_200) ?_
    exact j_vret C dX6_init_203 hr h
  · exact j_thrown C hT (run_W (As := []) (rest := []) C (m_X6_clear hst hc) cv_RX6_82 (by decide) rfl c50 rfl hl (by decide) (by decide) (by decide) dX6_init_200) hne
