section HPC
variable {p : Program} {l : Launch} {e : Env} {R : Room} {s : State} {m : MethodId} {args : Array Value} {below : List Frame} {meth : Method} {c : Code} {H : Heap} {locs : List Loc} {cells slots : Nat} {Q : State → Prop}
variable {pc : Nat} {ls : Array Slot} {rest : List Value}
/-- caught by the row x of this method's table; the rows ahead don't take it -/
theorem vx_catch {own name : String} {E : String} {ce : Cell} {q : Addr} (hown : s.vm.findClass own = some m.cls) (pre : List ExceptionTableEntry) (x : ExceptionTableEntry) (suf : List ExceptionTableEntry) (hsplit : c.exceptionTable.toList = pre ++ x :: suf)
    (hpass : ∀ z ∈ pre, covers z pc = false ∨ (z.catchType ≠ 0 ∧ ∃ nm : String, (Cond.classLink own z.catchType nm).before args s = true ∧ va_Nc E nm s)) (hx : covers x pc = true) (h0 : x.catchType ≠ 0)
    (hlink : (Cond.classLink own x.catchType name).before args s = true) (hcast : (Cond.castable E name).before args s = true) (hcell : H[q]? = some ce) (hv : ce.vm = .none) (hcl : s.vm.findClass E = some ce.cls)
    (kk : W p l e R s m args below meth c H locs cells slots Q (F0 m x.handlerPc ls [.ref q])) : vx_W p l e R s m args below meth c H locs cells slots Q (F0 m pc ls rest) q := by
  intro T hT X
  have hpl : e.platform.magicAccessors = ({} : Platform).magicAccessors := by rw [X.admits.platform]
  obtain ⟨c3, c4, hc3, hc4, hasg⟩ := Cond.castable_spec hcast
  cases Option.some.inj (hc3.symm.trans hcl)
  obtain ⟨c5, hc5, hcl5⟩ := Cond.classLink_spec hown hlink e.platform hpl
  cases Option.some.inj (hc4.symm.trans hc5)
  obtain ⟨vm', X', st⟩ := vy_caught (a := q) X (g := F0 m pc ls rest) rfl (by rw [hT]; exact hcell) (by rw [hv]; rfl) (by obtain ⟨k9, h9, -⟩ := Vm.findClass_spec hcl; exact ⟨k9, h9⟩) pre x suf hsplit hx h0 hcl5 hasg
    (fun z hz => by
      rcases hpass z hz with h | ⟨hz0, nm, hl1, hn1⟩
      · exact Or.inl h
      · obtain ⟨c6, hc6, hcl6⟩ := Cond.classLink_spec hown hl1 e.platform hpl
        obtain ⟨a8, b8, h1, h2, h3⟩ := hn1
        cases Option.some.inj (h1.symm.trans hcl)
        cases Option.some.inj (h2.symm.trans hc6)
        exact Or.inr ⟨hz0, _, hcl6, h3⟩)
  obtain ⟨t, a1, b1⟩ := kk (T.setVm vm') hT X'
  exact ⟨t, st.trans a1, b1⟩
end HPC
section J
variable {p : Program} {l : Launch} {e : Env} {R : Room} {s : State} {m : MethodId} {args : Array Value} {below : List Frame} {meth : Method} {c : Code}
variable {b : Nat} {D : va_G} {dA : Nat → ClassId} {S0 S S' : AS} {Q : State → Prop} {own : String} {cc : ByteArray} {nL pc fr lo : Nat} {ls : Array Slot} {st : List Value}
/-- what the callee threw is caught here -/
theorem j_caught (C : hp_C p l e R s m args below meth c b D dA S0 own cc nL fr lo) (hN : hp_N s) {rk k9 : Nat} {q : RS} {st0 rest : List Value} (hr : hp_run p l e R s m args below meth c b D dA S0 S pc ls st0 rest rk q) (h0 : q.1.1 = k9) (hk1 : 1 ≤ k9 ∧ k9 ≤ 4) (pre : List ExceptionTableEntry) (x : ExceptionTableEntry) (suf : List ExceptionTableEntry) (hsplit : c.exceptionTable.toList = pre ++ x :: suf)
    (hpass : ∀ z ∈ pre, z.catchType ≠ 0 ∧ ∃ j, 1 ≤ j ∧ j ≤ 4 ∧ k9 ≠ j ∧ Cond.classLink own z.catchType (exN j) ∈ hp_ws) (hx : covers x pc = true) (hx0 : x.catchType ≠ 0) (hlink : Cond.classLink own x.catchType (exN k9) ∈ hp_ws)
    (k : ∀ q9 : Addr, hp_J p l e R s m args below meth c b D dA S0 Q q.2 x.handlerPc ls (List.cons (.ref q9) List.nil)) : hp_J p l e R s m args below meth c b D dA S0 Q S pc ls st0 := by
  intro H locs q1 q2 q3 q4 T hT X
  rcases hr H locs q1 q3 q4 T hT X with ⟨v, st₀, t, T', L, e0, X', hL, e1, e2, ⟨hne, -⟩, stp⟩ | ⟨q9, st₀, t, T', L, E, ce, e0, X', hL, e1, e2, ⟨-, rfl, hR, hB, hF⟩, hce, hcv, hcl, stp⟩
  · omega
  · have q3' : hn S0 ≤ hn S ∧ hn S ≤ CM ∧ hu S0 ≤ hu S ∧ hu S ≤ UM := q3
    have hB' : hn S ≤ hn q.2 ∧ hn q.2 ≤ CM ∧ hu S ≤ hu q.2 ∧ hu q.2 ≤ UM := hB
    have hB2 : hp_B S0 q.2 := by unfold hp_B; omega
    rw [← e1] at hR hce
    rw [h0] at hcl
    have hts := C.2.2.2.2.1
    have w := k q9 T'.heap (locs ++ L) hR (fun z hz => by
      rcases List.mem_append.mp hz with h | h
      · exact q2 z h
      · exact hL z h) hB2 (fun x hx => by rw [e1, hF x hx, e0]; exact q4 x hx)
    obtain ⟨z1, z2, z3⟩ := hp_sizes C hR hB2
    have hcast : (Cond.castable (exN k9) (exN k9)).before args s = true := by
      refine va_Nw.use rfl (C.2.2.2.2.2.1.2.1 _ ?_)
      obtain ⟨h8, h9⟩ := hk1
      match k9, h8, h9 with
      | 1, _, _ => decide +kernel
      | 2, _, _ => decide +kernel
      | 3, _, _ => decide +kernel
      | 4, _, _ => decide +kernel
    obtain ⟨t2, a1, b1⟩ := vx_catch (rest := rest) C.2.2.2.1 pre x suf hsplit (fun z hz => by
      obtain ⟨g1, j, g2, g3, g4, g5⟩ := hpass z hz
      exact Or.inr ⟨g1, exN j, hts _ g5, hN k9 j hk1.1 hk1.2 g2 g3 g4⟩) hx hx0 (hts _ hlink) hcast hce hcv hcl (hp_tight z1 z2 z3 w) T' rfl X'
    exact ⟨t2, stp.trans a1, b1⟩
end J
