theorem hp_K.warm {b : Nat} {D : va_G} {dA : Nat → ClassId} {u U : State} (hW : u.WarmedH U.vm) (hh : ∀ x, x < b → U.heap[x]? = u.heap[x]?) (h : hp_K b D dA u) : hp_K b D dA U := by
  obtain ⟨h1, h2, h3, h4, h5, h6, h7⟩ := h
  refine ⟨va_K.moved hW.alike h1, fun w hw => ?_, va_AO.moved hW.alike h3, va_AO.moved hW.alike h4, fun A => over_moved hW.alike (h5 A), ?_, ?_⟩
  · have h8 := h2 w hw
    simp only [hp_bad, List.mem_cons, List.not_mem_nil, or_false] at hw
    rcases hw with rfl | rfl | rfl | rfl | rfl | rfl | rfl | rfl | rfl | rfl | rfl
    · exact va_Nw.warmM hW h8
    · exact va_Nw.warmM hW h8
    · exact va_Nw.warmM hW h8
    · exact va_Nw.warmC hW h8
    · exact va_Nw.warmC hW h8
    · exact va_Nw.warmC hW h8
    · exact va_Nw.warmC hW h8
    · exact va_Nw.warmC hW h8
    · exact va_Nw.warmD hW h8
    · exact va_Nw.warmD hW h8
    · exact va_Nw.warmD hW h8
  · exact vx_Zq.moved hW.alike (h6.kept fun x _ hx => hh x (Nat.not_le.mp hx))
  · exact vx_Zq.moved hW.alike (h7.kept fun x _ hx => hh x (Nat.not_le.mp hx))
def rZ (x : Int) (S : AS) : Option RS := if x = 0 ∨ x = 1 then some ((0, x, none), S) else none
theorem rZ_some {x : Int} {S : AS} {q : RS} (h : rZ x S = some q) : (x = 0 ∨ x = 1) ∧ q = ((0, x, none), S) := by
  unfold rZ at h
  split at h
  · rename_i g
    exact ⟨g, (Option.some.inj h).symm⟩
  · cases h
/-- a constructor's call: it doesn't throw -/
def cN (c : Option RS) (k : AS → Option RS) : Option RS := c.bind fun q => if q.1.1 = 0 then k q.2 else none
theorem cN_some {c : Option RS} {k : AS → Option RS} {q : RS} (h : cN c k = some q) : ∃ S', ∃ x : Int × Option Nat, c = some ((0, x), S') ∧ k S' = some q := by
  cases c with
  | none => simp [cN] at h
  | some y =>
    obtain ⟨⟨e, x⟩, S'⟩ := y
    simp only [cN, Option.bind_some] at h
    by_cases he : e = 0
    · subst he
      rw [if_pos rfl] at h
      exact ⟨S', x, rfl, h⟩
    · rw [if_neg he] at h
      cases h
/-- what a method owes at its end -/
def hp_Q (below : List Frame) (b : Nat) (D : va_G) (dA : Nat → ClassId) (S0 : AS) (rk : Nat) (q : RS) (args : Array Value) (s : State) : State → Prop :=
  vx_MQ below (hp_post b D dA S0 rk q) (hp_exc b D dA S0 q) args s (CM - hn S0) (UM - hu S0) (fun z => b ≤ z)
def lv1 (i : Nat) : List Value → List (Nat × Value)
  | [] => []
  | v :: vs => (i, v) :: lv1 (i + 1) vs
theorem lv1_eq : ∀ (As : List Value) (i : Nat), (∀ v ∈ As, v.category = 1) → lv_args i As = lv1 i As
  | [], _, _ => rfl
  | v :: vs, i, h => by
    have h1 : v.category = 1 := h v List.mem_cons_self
    have h2 := lv1_eq vs (i + 1) (fun w hw => h w (List.mem_cons_of_mem _ hw))
    simp only [lv_args, lv1, h1]
    rw [if_neg (by decide), h2]
theorem lg1_len : ∀ (As : List Value), (∀ v ∈ As, v.category = 1) → (lg_sl As).length = As.length
  | [], _ => rfl
  | v :: vs, h => by
    have h1 : v.category = 1 := h v List.mem_cons_self
    have h2 := lg1_len vs (fun w hw => h w (List.mem_cons_of_mem _ hw))
    simp only [lg_sl, List.flatMap_cons, List.length_append, List.length_cons] at h2 ⊢
    rw [h2, h1]
    simp
    omega
section J
variable {p : Program} {l : Launch} {e : Env} {R : Room} {s : State} {m : MethodId} {args : Array Value} {below : List Frame} {meth : Method} {c : Code}
variable {b : Nat} {D : va_G} {dA : Nat → ClassId} {S0 S S' : AS} {Q : State → Prop} {own : String} {cc : ByteArray} {nL pc fr lo : Nat} {ls : Array Slot} {st : List Value}
/-- a contract out of a walk from the method's entry -/
theorem hp_ofJ {y : MethodName} {ret : Option FieldType} {As : List Value} {rk : Nat} {q : RS} (hst : l.stackTraces = false) (hy : plainName y.cls = true) (ho : y.cls = own) (hcat : ∀ v ∈ As, v.category = 1) (hlen : As.length ≤ nL)
    (body : ∀ (p : Program) (e : Env) (R : Room) (s : State) (m : MethodId) (args : Array Value) (below : List Frame) (meth : Method) (c : Code), hp_C p l e R s m args below meth c b D dA S own cc nL fr lo → (∀ x ∈ c.exceptionTable.toList, False) → meth.name = y.name → meth.sig.returnType = ret → ∀ ls : Array Slot, lv_has ls nL (lv1 0 As) →
      hp_J p l e R s m args below meth c b D dA S (hp_Q below b D dA S rk q args s) S 0 ls []) : hp_M l b D dA y cc nL ret fr lo As S rk q := by
  subst ho
  refine vx_ofW hy rfl ?_
  intro p e s m args below meth c s₁ B hml ht hv
  obtain ⟨rfl, hR, hK, hB⟩ := hv
  have hts := atoms_spec (ws := Cond.code y cc nL ret :: hp_ws) B.pre
  have hl := lv_entry As (n := nL) (by rw [lg1_len As hcat]; exact hlen)
  rw [lg_entry_eq]
  generalize (lg_sl As ++ List.replicate (nL - (lg_sl As).length) Slot.unset).toArray = ls at hl ⊢
  rw [lv1_eq As 0 hcat] at hl
  have w := body p e (hp_rm fr lo S) s m As.toArray below meth c ⟨B.exec, B.bytes, hml, findClass_of_methodNamed B.named, fun w hw => hts w (List.mem_cons_of_mem _ hw), hK, hR, rfl, rfl, B.notSynchronized, hst, rfl, rfl⟩ ht (name_of_methodNamed B.named B.method).1 B.returns ls hl s.heap [] hR (fun z hz => nomatch hz) hB (fun _ _ => rfl)
  rw [Nat.sub_self, Nat.sub_self] at w
  exact w
/-! ends -/
theorem j_end {rk : Nat} {q : RS} {g : List Value} (C : hp_C p l e R s m args below meth c b D dA S0 own cc nL fr lo) (k : ∀ (H : Heap) (locs : List Loc), hp_R b D dA S H → (∀ z ∈ locs, b ≤ z.base) → hp_B S0 S → (∀ x, x < b → H[x]? = s.heap[x]?) → W p l e R s m args below meth c H locs (CM - hn S0) (UM - hu S0) (MQ below (hp_post b D dA S0 rk q) args s (CM - hn S0) (UM - hu S0) (fun z => b ≤ z)) (F0 m pc ls g)) : hp_J p l e R s m args below meth c b D dA S0 (hp_Q below b D dA S0 rk q args s) S pc ls g := by
  intro H locs q1 q2 q3 q4
  have q3' : hn S0 ≤ hn S ∧ hn S ≤ CM ∧ hu S0 ≤ hu S ∧ hu S ≤ UM := q3
  refine W.widen (k := CM - hn S0) (n := UM - hu S0) (by omega) (by omega) (vx_ret (k H locs q1 q2 q3 q4))
theorem j_iret (C : hp_C p l e R s m args below meth c b D dA S0 own cc nL fr lo) {x : Int} {q : RS} (d : decode cc pc = .ok (.ireturn, 1)) (hr : meth.sig.returnType = some .int) (hx : inR x) (hq : rI x S = some q) : hp_J p l e R s m args below meth c b D dA S0 (hp_Q below b D dA S0 1 q args s) S pc ls [iv x] := by
  cases hq
  exact j_end C fun H locs q1 q2 q3 q4 => W.iret C.1 C.2.1 hr (fun t ht hW => ⟨rfl, rfl, fun _ => hx, by rw [ht]; exact q1, q3, fun y hy => by rw [ht]; exact q4 y hy⟩) q2 d C.2.2.2.2.2.2.2.2.2.1
theorem j_zret (C : hp_C p l e R s m args below meth c b D dA S0 own cc nL fr lo) {x : Int} {q : RS} (d : decode cc pc = .ok (.ireturn, 1)) (hr : meth.sig.returnType = some .boolean) (hq : rZ x S = some q) : hp_J p l e R s m args below meth c b D dA S0 (hp_Q below b D dA S0 1 q args s) S pc ls [iv x] := by
  obtain ⟨hz, rfl⟩ := rZ_some hq
  have hx : inR x := by rcases hz with rfl | rfl <;> decide
  exact j_end C fun H locs q1 q2 q3 q4 => W.zret C.1 C.2.1 hr (by rcases hz with rfl | rfl <;> decide) (fun t ht hW => ⟨rfl, rfl, fun _ => hx, by rw [ht]; exact q1, q3, fun y hy => by rw [ht]; exact q4 y hy⟩) q2 d C.2.2.2.2.2.2.2.2.2.1
theorem j_vret (C : hp_C p l e R s m args below meth c b D dA S0 own cc nL fr lo) {q : RS} (d : decode cc pc = .ok (.return_, 1)) (hr : meth.sig.returnType = none) (hq : rV S = some q) : hp_J p l e R s m args below meth c b D dA S0 (hp_Q below b D dA S0 0 q args s) S pc ls [] := by
  cases hq
  exact j_end C fun H locs q1 q2 q3 q4 => W.vret C.1 C.2.1 hr (fun t ht hW => ⟨rfl, rfl, (fun h => by cases h), by rw [ht]; exact q1, q3, fun y hy => by rw [ht]; exact q4 y hy⟩) q2 d C.2.2.2.2.2.2.2.2.2.1
theorem j_aret (C : hp_C p l e R s m args below meth c b D dA S0 own cc nL fr lo) {x : Option Nat} {q : RS} {rt : FieldType} (d : decode cc pc = .ok (.areturn, 1)) (hr : meth.sig.returnType = some rt) (hrt : isRt rt = true) (hq : rR x S = some q) : hp_J p l e R s m args below meth c b D dA S0 (hp_Q below b D dA S0 2 q args s) S pc ls [rf b x] := by
  cases hq
  exact j_end C fun H locs q1 q2 q3 q4 => W.aret C.1 C.2.1 hr (by
    cases rt <;> first | (cases hrt; done) | exact Or.inl ⟨_, rfl⟩ | exact Or.inr ⟨_, rfl⟩) (by
    cases x
    · exact Or.inl rfl
    · exact Or.inr ⟨_, rfl⟩) (fun t ht hW => ⟨rfl, rfl, (fun h => by cases h), by rw [ht]; exact q1, q3, fun y hy => by rw [ht]; exact q4 y hy⟩) q2 d C.2.2.2.2.2.2.2.2.2.1
/-! calls -/
/-- a call that is under way: it comes back, or throws, as q says -/
def hp_run (p : Program) (l : Launch) (e : Env) (R : Room) (s : State) (m : MethodId) (args : Array Value) (below : List Frame) (meth : Method) (c : Code) (b : Nat) (D : va_G) (dA : Nat → ClassId) (S0 S : AS) (pc : Nat) (ls : Array Slot) (st0 rest : List Value) (rk : Nat) (q : RS) : Prop :=
  ∀ (H : Heap) (locs : List Loc), hp_R b D dA S H → hp_B S0 S → (∀ x, x < b → H[x]? = s.heap[x]?) → vx_Run p l e R s m args below meth c H locs (hn S - hn S0) (hu S - hu S0) (CM - hn S) (UM - hu S) (F0 m pc ls st0) rest (hp_post b D dA S rk q #[]) (hp_exc b D dA S q) (fun z => b ≤ z)
theorem hp_sizes (C : hp_C p l e R s m args below meth c b D dA S0 own cc nL fr lo) {H : Heap} (q1 : hp_R b D dA S H) (q3 : hp_B S0 S) : b ≤ s.heap.size ∧ H.size ≤ s.heap.size + (hn S - hn S0) ∧ hp_sum b H ≤ hp_sum b s.heap + (hu S - hu S0) := by
  have h0 := C.2.2.2.2.2.2.1
  have q3' : hn S0 ≤ hn S ∧ hn S ≤ CM ∧ hu S0 ≤ hu S ∧ hu S ≤ UM := q3
  have a1 := h0.1
  have a2 := h0.2.1
  have a3 := q1.1
  have a4 := q1.2.1
  omega
theorem j_back (C : hp_C p l e R s m args below meth c b D dA S0 own cc nL fr lo) {rk : Nat} {q : RS} {st0 rest : List Value} (hr : hp_run p l e R s m args below meth c b D dA S0 S pc ls st0 rest rk q) (h0 : q.1.1 = 0) (k : (rk = 1 → inR q.1.2.1) → hp_J p l e R s m args below meth c b D dA S0 Q q.2 (pc + 3) ls ((rvv b rk q.1.2).toList ++ rest)) : hp_J p l e R s m args below meth c b D dA S0 Q S pc ls st0 := by
  intro H locs q1 q2 q3 q4 T hT X
  rcases hr H locs q1 q3 q4 T hT X with ⟨v, st₀, t, T', L, e0, X', hL, e1, e2, ⟨-, hv, hx, hR, hB, hF⟩, stp⟩ | ⟨_, _, _, _, _, _, _, _, _, _, _, _, ⟨hne, -⟩, -⟩
  · cases hv
    have q3' : hn S0 ≤ hn S ∧ hn S ≤ CM ∧ hu S0 ≤ hu S ∧ hu S ≤ UM := q3
    have hB' : hn S ≤ hn q.2 ∧ hn q.2 ≤ CM ∧ hu S ≤ hu q.2 ∧ hu q.2 ≤ UM := hB
    have hB2 : hp_B S0 q.2 := by unfold hp_B; omega
    rw [← e1] at hR
    have w := k hx T'.heap (locs ++ L) hR (fun z hz => by
      rcases List.mem_append.mp hz with h | h
      · exact q2 z h
      · exact hL z h) hB2 (fun x hx => by rw [e1, hF x hx, e0]; exact q4 x hx)
    obtain ⟨z1, z2, z3⟩ := hp_sizes C hR hB2
    obtain ⟨t2, a1, b1⟩ := hp_tight z1 z2 z3 w T' rfl X'
    exact ⟨t2, stp t2 a1, b1⟩
  · exact absurd h0 hne
theorem j_thrown (C : hp_C p l e R s m args below meth c b D dA S0 own cc nL fr lo) (hT0 : ∀ x ∈ c.exceptionTable.toList, False) {rk rk' : Nat} {q : RS} {st0 rest : List Value} (hr : hp_run p l e R s m args below meth c b D dA S0 S pc ls st0 rest rk q) (h0 : q.1.1 ≠ 0) : hp_J p l e R s m args below meth c b D dA S0 (hp_Q below b D dA S0 rk' q args s) S pc ls st0 := by
  intro H locs q1 q2 q3 q4 T hT X
  rcases hr H locs q1 q3 q4 T hT X with ⟨v, st₀, t, T', L, e0, X', hL, e1, e2, ⟨hne, -⟩, stp⟩ | ⟨q9, st₀, t, T', L, E, ce, e0, X', hL, e1, e2, ⟨-, rfl, hR, hB, hF⟩, hce, hcv, hcl, stp⟩
  · exact absurd hne h0
  · have q3' : hn S0 ≤ hn S ∧ hn S ≤ CM ∧ hu S0 ≤ hu S ∧ hu S ≤ UM := q3
    have hB' : hn S ≤ hn q.2 ∧ hn q.2 ≤ CM ∧ hu S ≤ hu q.2 ∧ hu q.2 ≤ UM := hB
    have hB2 : hp_B S0 q.2 := by unfold hp_B; omega
    obtain ⟨t2, a1, b1⟩ := vx_out (p := p) (l := l) (e := e) (R := R) (pc := pc) (ls := ls) (rest := rest) (mc := CM - hn S0) (ms := UM - hu S0) (Qc := hp_post b D dA S0 rk' q) (XC := hp_exc b D dA S0 q) (free := fun z => b ≤ z) (fun x hx => (hT0 x hx).elim) C.2.2.2.2.2.2.2.2.2.1 (by rw [e1]; exact hce) hcv hcl
      (fun t9 ht9 _ => ⟨h0, rfl, by rw [ht9, e1]; exact hR, hB2, fun x hx => by rw [ht9, e1, hF x hx, e0]; exact q4 x hx⟩) (fun z hz => by
        rcases List.mem_append.mp hz with h | h
        · exact q2 z h
        · exact hL z h) (by omega) (by omega) T' rfl X'
    exact ⟨t2, stp.trans a1, b1⟩
end J
