section HPT
variable {p : Program} {l : Launch} {e : Env} {R : Room} {s : State} {m : MethodId} {args : Array Value} {below : List Frame} {meth : Method} {c : Code} {H : Heap} {locs : List Loc} {cells slots : Nat} {Q : State → Prop}
variable {free : Addr → Prop} {ls : Array Slot} {rest : List Value}
variable {Qc : Array Value → State → Outcome → State → Prop} {XC : String → State → State → Prop}
theorem hp_throw0 {cc : ByteArray} {pc : Nat} (hexec : p.tables.exec = Jvm.exec) (hb : c.code = cc) (hl : l.stackTraces = false) {own cls : String} {names : List String} {ik ic mc ms : Nat} {A : Nat → Prop}
    (hown : s.vm.findClass own = some m.cls) (hcls : Bundle.fit cls = true) (hnames : ∀ n ∈ names, Bundle.fit n = true)
    (hk : (Cond.classLink own ik cls).before args s = true) (hini : (Cond.initialized cls).before args s = true) (hat : ∀ w ∈ vx_at0 own ic cls names, w.before args s = true)
    (hgood : ∀ w ∈ Cond.classLink own ik cls :: Cond.initialized cls :: vx_at0 own ic cls names, vx_ot w = true)
    (hU : vx_Zq Bundle.tN "UNASSIGNED_STACK" Bundle.steD A s s.heap) (hN : vx_Zq Bundle.tN "SUPPRESSED_SENTINEL" Bundle.listD A s s.heap) (hS : va_S A s.heap H locs) (hsize : ls.size = c.maxLocals)
    (d0 : decode cc pc = .ok (.new ik, 3)) (d3 : decode cc (pc + 3) = .ok (.dup, 1)) (d4 : decode cc (pc + 4) = .ok (.invokespecial ic, 3)) (d7 : decode cc (pc + 7) = .ok (.athrow, 1))
    (hout : ∀ x ∈ c.exceptionTable.toList, covers x (pc + 7) = false)
    (hRframes : names.length + 3 < R.frames) (hRlocals : (rest.map fun v => v.category).sum + (13 * (names.length + 1) + 42) ≤ R.locals) (hRcells : cells + 1 ≤ R.cells) (hRslots : slots + 6 ≤ R.slots) (hlocks : meth.locks = false)
    (hx : ∀ (t : State) (ce : Cell), s.vm.Alike t.vm → t.heap.size = H.size + 1 → (∀ q : Nat, q < H.size → t.heap[q]? = H[q]?) → t.heap[H.size]? = some ce → ce.slots.size = 6 → XC cls s t)
    (hf : ∀ z ∈ locs, free z.base) (hc : cells + 1 ≤ mc) (hs : slots + 6 ≤ ms) :
    W p l e R s m args below meth c H locs cells slots (vx_MQ below Qc XC args s mc ms free) (F0 m pc ls rest) := by
  intro T hT X
  have htr : e.platform.stackTraces = false := (show e.platform.stackTraces = l.stackTraces by rw [X.admits.platform]).trans hl
  have Y := vx_rebase X (R' := { frames := R.frames, locals := R.locals, cells := 1, slots := 6 }) (Nat.le_refl _) (Nat.le_refl _) hRcells hRslots
  obtain ⟨s', hA⟩ : ∃ z, z = (T.setVm s.vm).setFrames (.invoking m args :: below) := ⟨_, rfl⟩
  rw [← hA] at Y
  have hvm : s'.vm = s.vm := by rw [hA]; rfl
  have hhp : s'.heap = H := by rw [hA]; exact hT
  have hW0 : s.WarmedH s'.vm := by rw [hvm]; exact State.WarmedH.refl s
  have hat' : ∀ w ∈ vx_at0 own ic cls names, w.before args s' = true := fun w hw => vx_ot_at hW0 hvm.symm (hgood w (List.mem_cons_of_mem _ (List.mem_cons_of_mem _ hw))) (hat w hw)
  have hk' : (Cond.classLink own ik cls).before args s' = true := vx_ot_at hW0 hvm.symm (hgood _ List.mem_cons_self) hk
  have hini' : (Cond.initialized cls).before args s' = true := vx_ot_at hW0 hvm.symm (hgood _ (List.mem_cons_of_mem _ List.mem_cons_self)) hini
  have hU' : vx_Zq Bundle.tN "UNASSIGNED_STACK" Bundle.steD A s' s'.heap := by rw [hhp]; exact vx_Zq.moved hW0.alike (hU.kept hS.2.1)
  have hN' : vx_Zq Bundle.tN "SUPPRESSED_SENTINEL" Bundle.listD A s' s'.heap := by rw [hhp]; exact vx_Zq.moved hW0.alike (hN.kept hS.2.1)
  have h : ∀ w ∈ Bundle.ownAtoms0 own ic cls names, w.before args s' = true := vx_own hat' (vx_isRefq hU'.1) (vx_isRefq hN'.1) hU'.2.word hN'.2.word
  have hown' : s'.vm.findClass own = some m.cls := by rw [hvm]; exact hown
  have hins : (Cond.instantiable cls 6).before args s' = true := h _ (by simp [Bundle.ownAtoms0])
  obtain ⟨vm₁, cX, kX, hfX, hkX, -, -, X₁, st1⟩ := Y.newCold hexec (own := own) (C := cls) (index := ik) (n := 6) hown' hk' hins hini'
    (g := F0 m pc ls rest) rfl (by rw [hb]; exact d0) (Nat.le_refl _) (Nat.le_refl _)
  generalize hT1 : (T.setVm vm₁).pushCell { cls := cX, slots := kX.instanceTypes.map defaultValue, vm := .none } = T1 at X₁ st1
  have hcat : (Value.ref T.heap.size).category = 1 := rfl
  have hcellA : T1.heap[T.heap.size]? = some (freshCell cX kX) := by rw [← hT1]; exact State.heap_pushCell_size _ _
  have d3' : decode c.code (pc + 3) = .ok (.dup, 1) := by rw [hb]; exact d3
  obtain ⟨U, hsteps, hrun, hend, hW, hsame, ce, hce, hO⟩ := X₁.ctorThrow0 hexec htr (own := own) (cls := cls) (names := names) (ic := ic) hown' hcls hnames h (fun x hx => nomatch hx) hfX hkX hcellA (by rw [hhp, hT]; exact Nat.le_refl _)
    (g := { method := m, pc := pc + 4, locals := ls, stack := .ref T.heap.size :: .ref T.heap.size :: rest, locked := none }) rfl hsize rfl rfl (rest := rest) rfl
    (by rw [hb]; exact d4) (by rw [hb]; exact d7) hout hRframes (by simp only [List.map_cons, List.sum_cons, hcat]; omega) hlocks
  obtain ⟨f1, f2⟩ := vx_frame hsame
  rw [hhp] at f1 f2
  have hzz : U.heap.size = H.size + 1 := by
    have g1 := hsame.2.2.1
    have g2 : U.heap.size ≤ s'.heap.size + (0 + 1) := g1
    rw [hhp] at g2
    have g3 : T.heap.size < U.heap.size := (Array.getElem?_eq_some_iff.mp hce).1
    rw [hT] at g3
    omega
  have hWs : s.WarmedH U.vm := State.WarmedH.trans hW0 hW
  have hcl : s.vm.findClass cls = some ce.cls := by
    have h9 := hO.cls
    rw [hvm] at h9
    exact h9
  have hall : s.sameButNew ({ U with vm := s.vm } : State) locs mc ms := by
    subst hA
    obtain ⟨e1, e2⟩ := hsame
    rw [State.setFrames_setFrames] at e1
    have h2 : (T.setVm s.vm).sameButNew ({ U with vm := s.vm } : State) [] (0 + 1) (0 + 6) := ⟨e1, e2⟩
    have h3 := X.same.trans h2
    rw [List.append_nil] at h3
    exact h3.mono hc hs
  refine ⟨U, ?_, .threw T.heap.size, hrun, hend, Or.inr ⟨T.heap.size, rfl, cls, ce, locs, hx U ce hWs.alike hzz (fun q hq => f2 q hq (fun z hz => nomatch hz)) (by rw [← hT]; exact hce) hO.size, hce, hO.vm, hcl, hWs, hall, hf⟩⟩
  refine st1 _ ?_
  show Steps p.tables e below (T1.setTop { method := m, pc := pc + 3, locals := ls, stack := .ref T.heap.size :: rest, locked := none }) _
  jvm_step X₁.here [X₁.here.top, hexec, d3', Value.category]
  exact hsteps
end HPT
theorem gd_of {ws : List Cond} (h : ∀ w ∈ ws, w ∈ hp_ws) : GoodIn hp_ws ws := fun w hw => ⟨h w hw, good_of_word (List.mem_filter.mp (h w hw)).2⟩
theorem gd_cons {w : Cond} (h : w ∈ hp_ws) : ∀ x ∈ w :: hp_ws, x ∈ hp_ws := fun x hx => by
  rcases List.mem_cons.mp hx with rfl | hx
  · exact h
  · exact hx
abbrev mh_ok (y : MethodName) (n : Nat) : Prop := y.cls ≠ "java/lang/invoke/MethodHandle" ∧ y.cls ≠ "java/lang/invoke/VarHandle" ∧ (parseMethodDescriptor y.desc).map (fun d => d.parameters.length) = some n
def cv_ok (own : String) (idx : Nat) (y : MethodName) (cc : ByteArray) (maxL n : Nat) (ret : Option FieldType) : Prop := Cond.methodLink own idx y ∈ hp_ws ∧ Cond.instanceMethod y ∈ hp_ws ∧ Cond.selects y.cls y y ∈ hp_ws ∧ Cond.initialized y.cls ∈ hp_ws ∧ Cond.code y cc maxL ret ∈ hp_ws ∧ mh_ok y n
def cs_ok (own : String) (idx : Nat) (y : MethodName) (cc : ByteArray) (maxL n : Nat) (ret : Option FieldType) : Prop := Cond.methodLink own idx y ∈ hp_ws ∧ Cond.static y ∈ hp_ws ∧ Cond.initialized y.cls ∈ hp_ws ∧ Cond.code y cc maxL ret ∈ hp_ws ∧ mh_ok y n
def ci_ok (own : String) (idx : Nat) (y : MethodName) (cc : ByteArray) (maxL n : Nat) : Prop := Cond.methodLink own idx y ∈ hp_ws ∧ Cond.instanceMethod y ∈ hp_ws ∧ Cond.initialized y.cls ∈ hp_ws ∧ Cond.code y cc maxL none ∈ hp_ws ∧ mh_ok y n ∧ y.name = "<init>"
theorem hp_blind {b : Nat} {D : va_G} {dA : Nat → ClassId} {As : List Value} {S : AS} : FrameBlind (hp_pre b D dA As S) := fun a U g mk h => by
  obtain ⟨h1, h2, h3, h4⟩ := h
  exact ⟨h1, h2, hp_K.warm (u := U) (U := U.calling g mk a) (State.WarmedH.refl U) (fun _ _ => rfl) h3, h4⟩
theorem hp_M.met {l : Launch} {b : Nat} {D : va_G} {dA : Nat → ClassId} {y : MethodName} {cc : ByteArray} {maxL : Nat} {ret : Option FieldType} {fr lo : Nat} {As : List Value} {S : AS} {rk : Nat} {q : RS} (h : hp_M l b D dA y cc maxL ret fr lo As S rk q) (h0 : q.1.1 = 0) : Met l y (.code y cc maxL ret :: hp_ws) (hp_rm fr lo S) (hp_pre b D dA As S) (hp_post b D dA S rk q) (CM - hn S) (UM - hu S) (fun z => b ≤ z) := by
  intro p e ha hc hk s m args below hf happ hP hK
  obtain ⟨n, o, h1, h2, h3, h4⟩ := h p e ha hc hk s m args below hf happ hP hK
  refine ⟨n, o, h1, h2, h3, ?_⟩
  rcases h4 with h4 | ⟨x, -, E, ce, L, ⟨hne, -⟩, -⟩
  · exact h4
  · exact absurd h0 hne
section J
variable {p : Program} {l : Launch} {e : Env} {R : Room} {s : State} {m : MethodId} {args : Array Value} {below : List Frame} {meth : Method} {c : Code}
variable {b : Nat} {D : va_G} {dA : Nat → ClassId} {S0 S S' : AS} {Q : State → Prop} {own : String} {cc : ByteArray} {nL pc fr lo : Nat} {ls : Array Slot} {st : List Value}
theorem hp_preAt (C : hp_C p l e R s m args below meth c b D dA S0 own cc nL fr lo) {As : List Value} {H : Heap} (q1 : hp_R b D dA S H) (q3 : hp_B S0 S) (q4 : ∀ x, x < b → H[x]? = s.heap[x]?) : ∀ U : State, U.heap = H → s.WarmedH U.vm → hp_pre b D dA As S As.toArray U := fun U hU hW =>
  ⟨rfl, by rw [hU]; exact q1, hp_K.warm hW (fun x hx => by rw [hU]; exact q4 x hx) C.2.2.2.2.2.1, by unfold hp_B at q3 ⊢; omega⟩
theorem hp_room (C : hp_C p l e R s m args below meth c b D dA S0 own cc nL fr lo) (q3 : hp_B S0 S) : hn S - hn S0 + (CM - hn S) ≤ R.cells ∧ hu S - hu S0 + (UM - hu S) ≤ R.slots := by
  have h1 := C.2.2.2.2.2.2.2.1
  have h2 := C.2.2.2.2.2.2.2.2.1
  have q3' : hn S0 ≤ hn S ∧ hn S ≤ CM ∧ hu S0 ≤ hu S ∧ hu S ≤ UM := q3
  omega
theorem hp_fr (C : hp_C p l e R s m args below meth c b D dA S0 own cc nL fr lo) {fr' lo' maxL : Nat} (h1 : fr' + 1 ≤ fr) (h2 : 8 + (maxL + 11) + lo' ≤ lo) : (hp_rm fr' lo' S).frames + 1 ≤ R.frames ∧ 8 + (maxL + 11) + (hp_rm fr' lo' S).locals ≤ R.locals := by
  have e1 : R.frames = fr := C.2.2.2.2.2.2.2.2.2.2.2.1
  have e2 : R.locals = lo := C.2.2.2.2.2.2.2.2.2.2.2.2
  rw [e1, e2]
  exact ⟨h1, h2⟩
theorem run_V (C : hp_C p l e R s m args below meth c b D dA S0 own cc nL fr lo) {y : MethodName} {cc' : ByteArray} {maxL n idx fr' lo' rk a ci : Nat} {ret : Option FieldType} {As rest : List Value} {q : RS} (hM : hp_M l b D dA y cc' maxL ret fr' lo' (rf b (some a) :: As) S rk q) (hc : cv_ok own idx y cc' maxL n ret) (hci : ci < 7) (hcls : y.cls = RC ci) (ha : hk S a = ci + 1) (hn9 : As.length = n) (hls : ls.size = nL) (hW : (rest.map fun v => v.category).sum ≤ 8) (hfr : fr' + 1 ≤ fr) (hlo : 8 + (maxL + 11) + lo' ≤ lo) (d : decode cc pc = .ok (.invokevirtual idx, 3)) :
    hp_run p l e R s m args below meth c b D dA S0 S pc ls (As.reverse ++ rf b (some a) :: rest) rest rk q := by
  intro H locs q1 q3 q4
  obtain ⟨w1, w2, w3, w4, w5, w6⟩ := hc
  have hts := C.2.2.2.2.1
  have hG : GoodIn hp_ws (wsV own idx y.cls y (Cond.code y cc' maxL ret :: hp_ws)) := gd_of fun w hw => by
    unfold wsV at hw
    simp only [List.cons_append, List.nil_append, List.mem_cons] at hw
    rcases hw with rfl | rfl | rfl | rfl | rfl | hw
    · exact w1
    · exact w2
    · exact w3
    · exact w4
    · exact w5
    · exact hw
  have hrecv : ∃ cellB : Cell, H[b + a]? = some cellB ∧ cellB.vm.isStatics = false ∧ s.vm.findClass y.cls = some cellB.cls := by
    obtain ⟨cell, g1, g2, g3, -⟩ := q1.obj hci ha
    exact ⟨cell, g1, by rw [g3]; rfl, by rw [g2, hcls]; exact (C.2.2.2.2.2.1.1.1 ci _ (vwC hci)).2.1⟩
  exact vx_runV (C := y.cls) (As := As) (rest := rest) ⟨C.1, C.2.1, C.2.2.1, C.2.2.2.1, hts⟩ hM (cwV n hts hG rfl rfl rfl ⟨rfl, w6⟩ (hp_fr C hfr hlo)) ⟨hp_blind, hrecv, hp_preAt C q1 q3 q4⟩ rfl hn9 hls rfl (lv_room hW) d (hp_room C q3)
theorem run_S (C : hp_C p l e R s m args below meth c b D dA S0 own cc nL fr lo) {y : MethodName} {cc' : ByteArray} {maxL n idx fr' lo' rk : Nat} {ret : Option FieldType} {As rest : List Value} {q : RS} (hM : hp_M l b D dA y cc' maxL ret fr' lo' As S rk q) (hc : cs_ok own idx y cc' maxL n ret) (hn9 : As.length = n) (hls : ls.size = nL) (hW : (rest.map fun v => v.category).sum ≤ 8) (hfr : fr' + 1 ≤ fr) (hlo : 8 + (maxL + 11) + lo' ≤ lo) (d : decode cc pc = .ok (.invokestatic idx, 3)) :
    hp_run p l e R s m args below meth c b D dA S0 S pc ls (As.reverse ++ rest) rest rk q := by
  intro H locs q1 q3 q4
  obtain ⟨w1, w2, w3, w5, w6⟩ := hc
  have hts := C.2.2.2.2.1
  exact vx_runS (As := As) (rest := rest) ⟨C.1, C.2.1, C.2.2.1, C.2.2.2.1, hts⟩ hM ⟨callB_of n hts (gd_of (gd_cons w5)) rfl rfl rfl (hts _ w3) (hts _ w1) w6 (hp_fr C hfr hlo), hts _ w2⟩ ⟨hp_blind, hp_preAt C q1 q3 q4⟩ rfl hn9 hls rfl (lv_room hW) d (hp_room C q3)
theorem run_I (C : hp_C p l e R s m args below meth c b D dA S0 own cc nL fr lo) {y : MethodName} {cc' : ByteArray} {maxL n idx fr' lo' rk a : Nat} {As rest : List Value} {q : RS} (hM : hp_M l b D dA y cc' maxL none fr' lo' (rf b (some a) :: As) S rk q) (h0 : q.1.1 = 0) (hc : ci_ok own idx y cc' maxL n) (hn9 : As.length = n) (hls : ls.size = nL) (hW : (rest.map fun v => v.category).sum ≤ 8) (hfr : fr' + 1 ≤ fr) (hlo : 8 + (maxL + 11) + lo' ≤ lo) (d : decode cc pc = .ok (.invokespecial idx, 3)) :
    hp_run p l e R s m args below meth c b D dA S0 S pc ls (As.reverse ++ rf b (some a) :: rest) rest rk q := by
  intro H locs q1 q3 q4
  obtain ⟨w1, w2, w3, w5, w6, w7⟩ := hc
  have hts := C.2.2.2.2.1
  exact fun T hT X => Or.inl (va_runI (As := As) (rest := rest) (g := F0 m pc ls (As.reverse ++ rf b (some a) :: rest)) ⟨C.1, C.2.1, C.2.2.1, C.2.2.2.1, hts⟩ (hM.met h0) (cwI n hts (gd_of (gd_cons w5)) rfl rfl rfl (hts _ w3) (hts _ w1) (hts _ w2) w7 w6 (hp_fr C hfr hlo)) ⟨hp_blind, hp_preAt C q1 q3 q4⟩ rfl hn9 hls rfl (lv_room hW) d (hp_room C q3) T hT X)
def cn_ok (own : String) (idx : Nat) (y : MethodName) (cc : ByteArray) (maxL n : Nat) (ret : Option FieldType) : Prop := Cond.methodLinkNest own idx y RX5 ∈ hp_bad ∧ Cond.initialized y.cls ∈ hp_ws ∧ Cond.code y cc maxL ret ∈ hp_ws ∧ mh_ok y n
theorem run_IN (C : hp_C p l e R s m args below meth c b D dA S0 own cc nL fr lo) {y : MethodName} {cc' : ByteArray} {maxL n idx fr' lo' rk a : Nat} {As rest : List Value} {q : RS} (hM : hp_M l b D dA y cc' maxL none fr' lo' (rf b (some a) :: As) S rk q) (h0 : q.1.1 = 0) (hc : cn_ok own idx y cc' maxL n none) (hy : y.name = "<init>" ∧ Cond.instanceMethod y ∈ hp_ws) (hn9 : As.length = n) (hls : ls.size = nL) (hW : (rest.map fun v => v.category).sum ≤ 8) (hfr : fr' + 1 ≤ fr) (hlo : 8 + (maxL + 11) + lo' ≤ lo) (d : decode cc pc = .ok (.invokespecial idx, 3)) :
    hp_run p l e R s m args below meth c b D dA S0 S pc ls (As.reverse ++ rf b (some a) :: rest) rest rk q := by
  intro H locs q1 q3 q4
  obtain ⟨w1, w3, w5, w6⟩ := hc
  have hts := C.2.2.2.2.1
  exact fun T hT X => Or.inl (va_runIN (As := As) (rest := rest) (g := F0 m pc ls (As.reverse ++ rf b (some a) :: rest)) (host := RX5) ⟨C.1, C.2.1, C.2.2.1, C.2.2.2.1, hts⟩ (hM.met h0) ⟨va_cnB n hts (gd_of (gd_cons w5)) rfl rfl rfl (C.2.2.2.2.2.1.2.1 _ w1) (hts _ w3) w6 (hp_fr C hfr hlo), hy.1, hts _ hy.2⟩ ⟨hp_blind, hp_preAt C q1 q3 q4⟩ rfl hn9 hls rfl (lv_room hW) d (hp_room C q3) T hT X)
theorem run_SN (C : hp_C p l e R s m args below meth c b D dA S0 own cc nL fr lo) {y : MethodName} {cc' : ByteArray} {maxL n idx fr' lo' rk : Nat} {ret : Option FieldType} {As rest : List Value} {q : RS} (hM : hp_M l b D dA y cc' maxL ret fr' lo' As S rk q) (h0 : q.1.1 = 0) (hc : cn_ok own idx y cc' maxL n ret) (hy : Cond.static y ∈ hp_ws) (hn9 : As.length = n) (hls : ls.size = nL) (hW : (rest.map fun v => v.category).sum ≤ 8) (hfr : fr' + 1 ≤ fr) (hlo : 8 + (maxL + 11) + lo' ≤ lo) (d : decode cc pc = .ok (.invokestatic idx, 3)) :
    hp_run p l e R s m args below meth c b D dA S0 S pc ls (As.reverse ++ rest) rest rk q := by
  intro H locs q1 q3 q4
  obtain ⟨w1, w3, w5, w6⟩ := hc
  have hts := C.2.2.2.2.1
  exact fun T hT X => Or.inl (va_runSN (As := As) (rest := rest) (g := F0 m pc ls (As.reverse ++ rest)) (host := RX5) ⟨C.1, C.2.1, C.2.2.1, C.2.2.2.1, hts⟩ (hM.met h0) ⟨va_cnB n hts (gd_of (gd_cons w5)) rfl rfl rfl (C.2.2.2.2.2.1.2.1 _ w1) (hts _ w3) w6 (hp_fr C hfr hlo), hts _ hy, trivial⟩ ⟨hp_blind, hp_preAt C q1 q3 q4⟩ rfl hn9 hls rfl (lv_room hW) d (hp_room C q3) T hT X)
/-- Object's constructor -/
theorem j_objInit (C : hp_C p l e R s m args below meth c b D dA S0 own cc nL fr lo) {idx : Nat} {r : Option Nat} (d : decode cc pc = .ok (.invokespecial idx, 3)) (hr : r.isSome = true) (w1 : Cond.methodLink own idx objectInit ∈ hp_ws) (w2 : Cond.instanceMethod objectInit ∈ hp_ws) (w3 : Cond.code objectInit ⟨#[0xb1]⟩ 1 none ∈ hp_ws) (hls : ls.size = nL) (hfr : 1 ≤ fr) (hlo : (st.map fun v => v.category).sum + 12 ≤ lo) (k : hp_J p l e R s m args below meth c b D dA S0 Q S (pc + 3) ls st) : hp_J p l e R s m args below meth c b D dA S0 Q S pc ls (rf b r :: st) := by
  obtain ⟨a, rfl⟩ := Option.isSome_iff_exists.mp hr
  have e1 : R.frames = fr := C.2.2.2.2.2.2.2.2.2.2.2.1
  have e2 : R.locals = lo := C.2.2.2.2.2.2.2.2.2.2.2.2
  have hts := C.2.2.2.2.1
  exact fun H locs q1 q2 q3 q4 => W.objInit C.1 C.2.1 C.2.2.2.1 (hts _ w1) (hts _ w2) (hts _ w3) rfl (hls.trans C.2.2.1.symm) rfl d (by rw [e1]; exact hfr) (by rw [e2]; show 2 * 0 + _ + 12 ≤ _; omega) (k H locs q1 q2 q3 q4)
/-- throw new E() -/
def tw_ok (ik ic k9 : Nat) : Prop := 1 ≤ k9 ∧ k9 ≤ 4 ∧ Cond.classLink RX5 ik (exN k9) ∈ hp_ws ∧ Cond.initialized (exN k9) ∈ hp_ws ∧ (∀ w ∈ vx_at0 RX5 ic (exN k9) ["java/lang/RuntimeException", "java/lang/Exception"], w ∈ hp_ws ∨ w ∈ hp_bad) ∧ (∀ w ∈ Cond.classLink RX5 ik (exN k9) :: Cond.initialized (exN k9) :: vx_at0 RX5 ic (exN k9) ["java/lang/RuntimeException", "java/lang/Exception"], vx_ot w = true) ∧ Bundle.fit (exN k9) = true
theorem j_throw (C : hp_C p l e R s m args below meth c b D dA S0 RX5 cc nL fr lo) (hT0 : ∀ x ∈ c.exceptionTable.toList, False) {ik ic k9 rk : Nat} {q : RS} (hw : tw_ok ik ic k9) (d0 : decode cc pc = .ok (.new ik, 3)) (d3 : decode cc (pc + 3) = .ok (.dup, 1)) (d4 : decode cc (pc + 4) = .ok (.invokespecial ic, 3)) (d7 : decode cc (pc + 7) = .ok (.athrow, 1)) (hls : ls.size = nL) (hfr : 5 < fr) (hlo : (st.map fun v => v.category).sum + 81 ≤ lo) (hq : rX k9 S = some q) :
    hp_J p l e R s m args below meth c b D dA S0 (hp_Q below b D dA S0 rk q args s) S pc ls st := by
  obtain ⟨g1, g2, rfl⟩ := rX_some hq
  obtain ⟨k1, k2, w1, w2, w3, w4, w5⟩ := hw
  have e1 : R.frames = fr := C.2.2.2.2.2.2.2.2.2.2.2.1
  have e2 : R.locals = lo := C.2.2.2.2.2.2.2.2.2.2.2.2
  have hts := C.2.2.2.2.1
  have hRc := C.2.2.2.2.2.2.2.1
  have hRs := C.2.2.2.2.2.2.2.2.1
  intro H locs q1 q2 q3 q4
  have q3' : hn S0 ≤ hn S ∧ hn S ≤ CM ∧ hu S0 ≤ hu S ∧ hu S ≤ UM := q3
  have hsz : H.size = b + hn S := q1.1
  have hz0 := C.2.2.2.2.2.2.1.1
  have hS : va_S (fun q => b ≤ q) s.heap H locs := ⟨by omega, fun x _ hx => q4 x (Nat.not_le.mp hx), q2⟩
  refine hp_throw0 (names := ["java/lang/RuntimeException", "java/lang/Exception"]) (A := fun q => b ≤ q) C.1 C.2.1 C.2.2.2.2.2.2.2.2.2.2.1 C.2.2.2.1 w5 (by decide +kernel) (hts _ w1) (hts _ w2) (fun w hw => ?_) w4 C.2.2.2.2.2.1.2.2.2.2.2.1 C.2.2.2.2.2.1.2.2.2.2.2.2 hS (hls.trans C.2.2.1.symm) d0 d3 d4 d7 (fun x hx => (hT0 x hx).elim)
    (by rw [e1]; exact hfr) (by rw [e2]; show _ + (13 * (2 + 1) + 42) ≤ _; omega) (by rw [hRc]; omega) (by rw [hRs]; omega) C.2.2.2.2.2.2.2.2.2.1 (fun t ce _ z o e he => ?_) q2 (by omega) (by omega)
  · rcases w3 w hw with h | h
    · exact hts _ h
    · have := C.2.2.2.2.2.1.2.1 w h
      refine va_Nw.use ?_ this
      revert h
      exact (by decide +kernel : ∀ w ∈ hp_bad, w.onTables = true) w
  · refine ⟨(show k9 ≠ 0 by omega), rfl, q1.thrown z o e he, hp_B.grow (n := 1) (u := 6) q3 rfl rfl (by omega) g2, fun x hx => by rw [o x (by omega)]; exact q4 x hx⟩
theorem j_max (C : hp_C p l e R s m args below meth c b D dA S0 own cc nL fr lo) {idx : Nat} {x y : Int} (d : decode cc pc = .ok (.invokestatic idx, 3)) (hx : inR x) (hy : inR y) (w1 : Cond.methodLink own idx Lib.Math.max.name ∈ hp_ws) (w2 : Cond.static Lib.Math.max.name ∈ hp_ws) (w3 : Cond.initialized "java/lang/Math" ∈ hp_ws) (w4 : Cond.code Lib.Math.max.name Lib.Math.max.code 2 (some .int) ∈ hp_ws) (hls : ls.size = nL) (hfr : 1 ≤ fr) (hlo : (st.map fun v => v.category).sum + 13 ≤ lo) (k : hp_J p l e R s m args below meth c b D dA S0 Q S (pc + 3) ls (iv (if x < y then y else x) :: st)) : hp_J p l e R s m args below meth c b D dA S0 Q S pc ls (iv y :: iv x :: st) := by
  have e1 : R.frames = fr := C.2.2.2.2.2.2.2.2.2.2.2.1
  have e2 : R.locals = lo := C.2.2.2.2.2.2.2.2.2.2.2.2
  have hts := C.2.2.2.2.1
  intro H locs q1 q2 q3 q4
  have hR9 := hp_room C q3
  refine va_mmax C.1 C.2.1 (C.2.2.1.trans hls.symm) C.2.2.2.1 (hts _ w1) (hts _ w2) (hts _ w3) (hts _ w4) (by rw [e1]; exact hfr) (by rw [e2]; exact hlo) (by omega) (by omega) d ?_
  have w := k H locs q1 q2 q3 q4
  have h9 := iv_lt hx hy
  by_cases h : x < y
  · rw [if_pos h] at w
    rw [if_pos (h9.mpr h)]
    exact w
  · rw [if_neg h] at w
    rw [if_neg (fun z => h (h9.mp z))]
    exact w
theorem j_min (C : hp_C p l e R s m args below meth c b D dA S0 own cc nL fr lo) {idx : Nat} {x y : Int} (d : decode cc pc = .ok (.invokestatic idx, 3)) (hx : inR x) (hy : inR y) (w1 : Cond.methodLink own idx Lib.Math.min.name ∈ hp_ws) (w2 : Cond.static Lib.Math.min.name ∈ hp_ws) (w3 : Cond.initialized "java/lang/Math" ∈ hp_ws) (w4 : Cond.code Lib.Math.min.name Lib.Math.min.code 2 (some .int) ∈ hp_ws) (hls : ls.size = nL) (hfr : 1 ≤ fr) (hlo : (st.map fun v => v.category).sum + 13 ≤ lo) (k : hp_J p l e R s m args below meth c b D dA S0 Q S (pc + 3) ls (iv (if y < x then y else x) :: st)) : hp_J p l e R s m args below meth c b D dA S0 Q S pc ls (iv y :: iv x :: st) := by
  have e1 : R.frames = fr := C.2.2.2.2.2.2.2.2.2.2.2.1
  have e2 : R.locals = lo := C.2.2.2.2.2.2.2.2.2.2.2.2
  have hts := C.2.2.2.2.1
  intro H locs q1 q2 q3 q4
  have hR9 := hp_room C q3
  refine va_mmin C.1 C.2.1 (C.2.2.1.trans hls.symm) C.2.2.2.1 (hts _ w1) (hts _ w2) (hts _ w3) (hts _ w4) (by rw [e1]; exact hfr) (by rw [e2]; exact hlo) (by omega) (by omega) d ?_
  have w := k H locs q1 q2 q3 q4
  have h9 := iv_lt hy hx
  by_cases h : y < x
  · rw [if_pos h] at w
    rw [if_pos (h9.mpr h)]
    exact w
  · rw [if_neg h] at w
    rw [if_neg (fun z => h (h9.mp z))]
    exact w
end J
