/-! the law's own: longs, the script, catching -/
theorem i64_toInt {x : Int} (h : inR x) : (Int64.ofInt x).toInt = x := Int64.toInt_ofInt_of_le (by omega) (by omega)
theorem i64_of {x : Int} (h : inR x) : (Int32.ofInt x).toInt64 = Int64.ofInt x := Int64.toInt_inj.mp (by rw [Int32.toInt_toInt64, iv_toInt h, i64_toInt h])
def cmpI (x y : Int) : Int := if y < x then 1 else if x = y then 0 else -1
theorem cmpI_inR (x y : Int) : inR (cmpI x y) := by
  unfold cmpI
  split
  · decide
  · split <;> decide
def hp_N (U : State) : Prop := ∀ i j, 1 ≤ i → i ≤ 4 → 1 ≤ j → j ≤ 4 → i ≠ j → va_Nc (exN i) (exN j) U
theorem hp_N.moved {u U : State} (hvm : u.vm.Alike U.vm) (h : hp_N u) : hp_N U := fun i j h1 h2 h3 h4 h5 => va_Nc.moved hvm (h i j h1 h2 h3 h4 h5)
def hp_preN (b : Nat) (D : va_G) (dA : Nat → ClassId) (As : List Value) (S : AS) : Array Value → State → Prop := fun a U => hp_pre b D dA As S a U ∧ hp_N U
theorem hp_blindN {b : Nat} {D : va_G} {dA : Nat → ClassId} {As : List Value} {S : AS} : FrameBlind (hp_preN b D dA As S) := fun a U g mk h => ⟨hp_blind a U g mk h.1, hp_N.moved (u := U) (U := U.calling g mk a) (Vm.Alike.refl U.vm) h.2⟩
/-- a contract of a method with handlers of its own -/
def hp_MW (l : Launch) (b : Nat) (D : va_G) (dA : Nat → ClassId) (y : MethodName) (cc : ByteArray) (maxL : Nat) (ret : Option FieldType) (hh : List (Nat × Nat × Nat × Nat)) (fr lo : Nat) (As : List Value) (S : AS) (rk : Nat) (q : RS) : Prop :=
  vx_Met l y (.codeWith y cc maxL ret hh :: hp_ws) (hp_rm fr lo S) (hp_preN b D dA As S) (hp_post b D dA S rk q) (hp_exc b D dA S q) (CM - hn S) (UM - hu S) (fun z => b ≤ z)
def cH (c : Option RS) (k : Int → AS → Option RS) (kx : Nat → AS → Option RS) : Option RS := c.bind fun q => if q.1.1 = 0 then k q.1.2.1 q.2 else kx q.1.1 q.2
abbrev cHf (c : Option RS) (kx : Nat → AS → Option RS) (k : Int → AS → Option RS) : Option RS := cH c k kx
theorem cH_some {c : Option RS} {k : Int → AS → Option RS} {kx : Nat → AS → Option RS} {q : RS} (h : cH c k kx = some q) : (∃ S' v r, c = some ((0, v, r), S') ∧ k v S' = some q) ∨ (∃ q9, c = some q9 ∧ q9.1.1 ≠ 0 ∧ kx q9.1.1 q9.2 = some q) := by
  cases c with
  | none => simp [cH] at h
  | some y =>
    obtain ⟨⟨e, v, r⟩, S'⟩ := y
    simp only [cH, Option.bind_some] at h
    by_cases he : e = 0
    · subst he
      rw [if_pos rfl] at h
      exact Or.inl ⟨S', v, r, rfl, h⟩
    · rw [if_neg he] at h
      exact Or.inr ⟨_, rfl, he, h⟩
def cw_ok (own : String) (idx : Nat) (y : MethodName) (cc : ByteArray) (maxL n : Nat) (ret : Option FieldType) (hh : List (Nat × Nat × Nat × Nat)) : Prop := Cond.methodLink own idx y ∈ hp_ws ∧ Cond.static y ∈ hp_ws ∧ Cond.initialized y.cls ∈ hp_ws ∧ Cond.codeWith y cc maxL ret hh ∈ hp_ws ∧ mh_ok y n
/-- the law's script -/
def aS (L : Nat) (xs : Nat → Int32) (i : Int) : Option Int := if 0 ≤ i ∧ i < L then some (xs i.toNat).toInt else none
theorem i32_inR (x : Int32) : inR x.toInt := ⟨Int32.le_toInt x, by have := Int32.toInt_lt x; omega⟩
theorem i32_of (x : Int32) : Int32.ofInt x.toInt = x := Int32.toInt_inj.mp (iv_toInt (i32_inR x))
section J
variable {p : Program} {l : Launch} {e : Env} {R : Room} {s : State} {m : MethodId} {args : Array Value} {below : List Frame} {meth : Method} {c : Code}
variable {b : Nat} {D : va_G} {dA : Nat → ClassId} {S0 S S' : AS} {Q : State → Prop} {own : String} {cc : ByteArray} {nL pc fr lo : Nat} {ls : Array Slot} {st : List Value}
theorem j_i2l (C : hp_C p l e R s m args below meth c b D dA S0 own cc nL fr lo) {x : Int} (d : decode cc pc = .ok (.i2l, 1)) (hx : inR x) (k : hp_J p l e R s m args below meth c b D dA S0 Q S (pc + 1) ls (lvv x :: st)) : hp_J p l e R s m args below meth c b D dA S0 Q S pc ls (iv x :: st) :=
  j_of (fun _ _ _ _ h => lv_i2l C.1 C.2.1 d (i64_of hx) h) k
theorem j_lconst (C : hp_C p l e R s m args below meth c b D dA S0 own cc nL fr lo) {n : Fin 2} {x : Int} (d : decode cc pc = .ok (.lconst n, 1)) (hx : Int64.ofNat (n : Nat) = Int64.ofInt x) (k : hp_J p l e R s m args below meth c b D dA S0 Q S (pc + 1) ls (lvv x :: st)) : hp_J p l e R s m args below meth c b D dA S0 Q S pc ls st :=
  j_of (fun _ _ _ _ h => lv_lconst C.1 C.2.1 d hx h) k
theorem j_lcmp (C : hp_C p l e R s m args below meth c b D dA S0 own cc nL fr lo) {x y : Int} (d : decode cc pc = .ok (.lcmp, 1)) (hx : inR x) (hy : inR y) (k : hp_J p l e R s m args below meth c b D dA S0 Q S (pc + 1) ls (iv (cmpI x y) :: st)) : hp_J p l e R s m args below meth c b D dA S0 Q S pc ls (lvv y :: lvv x :: st) := by
  have e : lg_cmp (Int64.ofInt x) (Int64.ofInt y) = Int32.ofInt (cmpI x y) := by
    have h1 : Int64.ofInt x > Int64.ofInt y ↔ y < x := by
      show Int64.ofInt y < Int64.ofInt x ↔ y < x
      rw [Int64.lt_iff_toInt_lt, i64_toInt hx, i64_toInt hy]
    have h2 : Int64.ofInt x = Int64.ofInt y ↔ x = y := ⟨fun h => by rw [← i64_toInt hx, ← i64_toInt hy, h], fun h => by rw [h]⟩
    unfold lg_cmp cmpI
    by_cases g1 : y < x
    · rw [if_pos (h1.mpr g1), if_pos g1]; decide
    · rw [if_neg (fun z => g1 (h1.mp z)), if_neg g1]
      by_cases g2 : x = y
      · rw [if_pos (h2.mpr g2), if_pos g2]; decide
      · rw [if_neg (fun z => g2 (h2.mp z)), if_neg g2]; decide
  exact j_of (fun _ _ _ _ h => W.lcmp C.1 C.2.1 d (by rw [e]; exact h)) k
theorem j_last (C : hp_C p l e R s m args below meth c b D dA S0 own cc nL fr lo) {r : Option Nat} {i v : Int} (d : decode cc pc = .ok (.lastore, 1)) (hi : inR i) (hv : inR v) (hg : sI S r 13 i v = some S') (k : hp_J p l e R s m args below meth c b D dA S0 Q S' (pc + 1) ls st) : hp_J p l e R s m args below meth c b D dA S0 Q S pc ls (lvv v :: iv i :: rf b r :: st) := by
  obtain ⟨a, rfl, ha, h0, h1, rfl⟩ := sI_some hg
  intro H locs q1 q2 q3 q4
  have hin := iv_in hi h0 h1
  refine W.last C.1 C.2.1 (q1.arr (by decide) ha) ((hp_aro C.2.2.2.2.2.1.1).2.2.2.2.2 _ _) (fun q => by cases q) (by rw [arrV_size]; exact hin) rfl rfl d fun H' e1 e2 e3 => ?_
  rw [iv_clamp hi] at e1
  exact j_put2 (S' := wI S a i.toNat v) (by decide) ha rfl rfl rfl rfl (fun x j h => by rw [hI_wI, if_neg (by omega)]) (fun _ _ _ => rfl) (by rw [hI_wI, if_pos ⟨rfl, rfl⟩]; rfl) (fun _ => by rw [hI_wI, if_pos ⟨rfl, rfl⟩]; exact hv) (fun h => by cases h) k q1 q2 q3 q4 H' _ e1 e2 e3
theorem j_lald (C : hp_C p l e R s m args below meth c b D dA S0 own cc nL fr lo) {r : Option Nat} {i v : Int} (d : decode cc pc = .ok (.laload, 1)) (hi : inR i) (hg : aI S r 13 i = some v) (k : inR v → hp_J p l e R s m args below meth c b D dA S0 Q S (pc + 1) ls (lvv v :: st)) : hp_J p l e R s m args below meth c b D dA S0 Q S pc ls (iv i :: rf b r :: st) := by
  obtain ⟨a, rfl, ha, h0, h1, rfl⟩ := aI_some hg
  intro H locs q1 q2 q3 q4
  have hin := iv_in hi h0 h1
  exact W.lald C.1 C.2.1 (q1.arr (by decide) ha) ((hp_aro C.2.2.2.2.2.1.1).2.2.2.2.2 _ _) (fun q => by cases q) (by rw [arrV_size]; exact hin) (by rw [iv_clamp hi, arrV_read _ _ (by omega)]; rfl) rfl rfl d (k (q1.2.2.2.1 _ _) H locs q1 q2 q3 q4)
theorem j_iand31 (C : hp_C p l e R s m args below meth c b D dA S0 own cc nL fr lo) {x : Int} (d : decode cc pc = .ok (.iand, 1)) (hx : inR x) (k : inR (x % 32) → hp_J p l e R s m args below meth c b D dA S0 Q S (pc + 1) ls (iv (x % 32) :: st)) : hp_J p l e R s m args below meth c b D dA S0 Q S pc ls (iv 31 :: iv x :: st) := by
  have h1 : 0 ≤ x % 32 := Int.emod_nonneg x (by decide)
  have h2 : x % 32 < 32 := Int.emod_lt_of_pos x (by decide)
  have hr : inR (x % 32) := by omega
  have e : Int32.ofInt x &&& Int32.ofInt 31 = Int32.ofInt (x % 32) := by
    rw [pk_and (Int32.ofInt x) 5 (by decide)]
    have hb : (Int32.ofInt x).toBitVec.toNat = (x % 4294967296).toNat := by
      show (BitVec.ofInt 32 x).toNat = _
      rw [BitVec.toNat_ofInt]
      rfl
    rw [hb]
    show Int32.ofNat _ = _
    apply Int32.toInt_inj.mp
    rw [iv_toInt hr]
    have h3 : (x % 4294967296).toNat % 2 ^ 5 = (x % 32).toNat := by omega
    rw [h3]
    have := nI_toInt (n := (x % 32).toNat) (by omega)
    rw [show Int32.ofNat (x % 32).toNat = nI (x % 32).toNat from rfl, this]
    omega
  exact j_of (fun _ _ _ _ h => lv_iand C.1 C.2.1 d (by rw [e]; exact h)) (k hr)
theorem j_aloadS (C : hp_C p l e R s m args below meth c b D dA S0 own cc nL fr lo) {k9 : Fin 4} {i bs : Nat} (d : decode cc pc = .ok (.aload_n k9, 1)) (hi : (k9 : Nat) = i) (hl : ls[i]? = some (.val (.ref bs))) (k : hp_J p l e R s m args below meth c b D dA S0 Q S (pc + 1) ls (.ref bs :: st)) : hp_J p l e R s m args below meth c b D dA S0 Q S pc ls st :=
  j_of (fun _ _ _ _ h => lv_aload_n C.1 C.2.1 d hi hl h) k
theorem j_slen (C : hp_C p l e R s m args below meth c b D dA S0 own cc nL fr lo) {bs L : Nat} {xs : Nat → Int32} (hX : va_X bs L xs s s.heap) (hbs : bs < b) (hL : L ≤ 2560) (d : decode cc pc = .ok (.arraylength, 1)) (k : inR (L : Int) → hp_J p l e R s m args below meth c b D dA S0 Q S (pc + 1) ls (iv (L : Int) :: st)) : hp_J p l e R s m args below meth c b D dA S0 Q S pc ls (.ref bs :: st) := by
  intro H locs q1 q2 q3 q4
  obtain ⟨scr, g1, g2, g3, g4, g5⟩ := hX
  exact W.alen C.1 C.2.1 (by rw [q4 bs hbs]; exact g1) g2 (by rw [g4]; rfl) rfl rfl d (k (by omega) H locs q1 q2 q3 q4)
theorem j_sld (C : hp_C p l e R s m args below meth c b D dA S0 own cc nL fr lo) {bs L : Nat} {xs : Nat → Int32} {i v : Int} (hX : va_X bs L xs s s.heap) (hbs : bs < b) (d : decode cc pc = .ok (.iaload, 1)) (hi : inR i) (hg : aS L xs i = some v) (k : inR v → hp_J p l e R s m args below meth c b D dA S0 Q S (pc + 1) ls (iv v :: st)) : hp_J p l e R s m args below meth c b D dA S0 Q S pc ls (iv i :: .ref bs :: st) := by
  unfold aS at hg
  split at hg
  · rename_i h9
    cases hg
    intro H locs q1 q2 q3 q4
    obtain ⟨scr, g1, g2, g3, g4, g5⟩ := hX
    have hin := iv_in hi h9.1 h9.2
    refine W.iald C.1 C.2.1 (by rw [q4 bs hbs]; exact g1) g2 g3 (by rw [g4]; exact hin) (v := iv (xs i.toNat).toInt) ?_ rfl rfl d (k (i32_inR _) H locs q1 q2 q3 q4)
    rw [iv_clamp hi, g5 _ (by omega)]
    unfold iv
    rw [i32_of]
  · cases hg
theorem k_astX_n (C : hp_C p l e R s m args below meth c b D dA S0 own cc nL fr lo) {k9 : Fin 4} {i : Nat} {q9 : Addr} {lv lv' : List (Nat × Value)} (d : decode cc pc = .ok (.astore_n k9, 1)) (hi : (k9 : Nat) = i) (h : hp_L ls nL lv) (hn9 : i < nL) (hl : lv.filter (fun q => !(q.1 == i)) = lv') (k : ∀ ls' : Array Slot, hp_L ls' nL lv' → hp_J p l e R s m args below meth c b D dA S0 Q S (pc + 1) ls' st) : hp_J p l e R s m args below meth c b D dA S0 Q S pc ls (.ref q9 :: st) :=
  fun H locs h1 h2 h3 h4 => lv_astore_n C.1 C.2.1 d hi h.1 hn9 (h.put (ls' := ls) (v := .ref q9) rfl rfl).1 (fun ls' hl' => k ls' (by
    have h9 := (h.put (ls' := ls') (v := .ref q9) rfl rfl).2 hl'
    refine ⟨⟨h9.1.1, h9.1.2.1, fun q hq => h9.1.2.2 q (List.mem_cons_of_mem _ (by rw [hl]; exact hq))⟩, fun q hq => h9.2 q (List.mem_cons_of_mem _ (by rw [hl]; exact hq))⟩) H locs h1 h2 h3 h4)
theorem k_astX (C : hp_C p l e R s m args below meth c b D dA S0 own cc nL fr lo) {i : Nat} {q9 : Addr} {lv lv' : List (Nat × Value)} (d : decode cc pc = .ok (.astore i, 2)) (h : hp_L ls nL lv) (hn9 : i < nL) (hl : lv.filter (fun q => !(q.1 == i)) = lv') (k : ∀ ls' : Array Slot, hp_L ls' nL lv' → hp_J p l e R s m args below meth c b D dA S0 Q S (pc + 2) ls' st) : hp_J p l e R s m args below meth c b D dA S0 Q S pc ls (.ref q9 :: st) :=
  fun H locs h1 h2 h3 h4 => lv_astore C.1 C.2.1 d h.1 hn9 (h.put (ls' := ls) (v := .ref q9) rfl rfl).1 (fun ls' hl' => k ls' (by
    have h9 := (h.put (ls' := ls') (v := .ref q9) rfl rfl).2 hl'
    refine ⟨⟨h9.1.1, h9.1.2.1, fun q hq => h9.1.2.2 q (List.mem_cons_of_mem _ (by rw [hl]; exact hq))⟩, fun q hq => h9.2 q (List.mem_cons_of_mem _ (by rw [hl]; exact hq))⟩) H locs h1 h2 h3 h4)
/-- a contract of a method with handlers, out of a walk from its entry -/
theorem hp_ofJW {y : MethodName} {ret : Option FieldType} {hh : List (Nat × Nat × Nat × Nat)} {As : List Value} {rk : Nat} {q : RS} (hst : l.stackTraces = false) (hy : plainName y.cls = true) (ho : y.cls = own) (hcat : ∀ v ∈ As, v.category = 1) (hlen : As.length ≤ nL)
    (body : ∀ (p : Program) (e : Env) (R : Room) (s : State) (m : MethodId) (args : Array Value) (below : List Frame) (meth : Method) (c : Code), hp_C p l e R s m args below meth c b D dA S own cc nL fr lo → c.exceptionTable.toList = tableOf hh → hp_N s → meth.sig.returnType = ret → ∀ ls : Array Slot, lv_has ls nL (lv1 0 As) →
      hp_J p l e R s m args below meth c b D dA S (hp_Q below b D dA S rk q args s) S 0 ls []) : hp_MW l b D dA y cc nL ret hh fr lo As S rk q := by
  subst ho
  refine vx_ofWH hy rfl ?_
  intro p e s m args below meth c s₁ B hml hv
  obtain ⟨⟨rfl, hR, hK, hB⟩, hN⟩ := hv
  have hts := atoms_spec (ws := Cond.codeWith y cc nL ret hh :: hp_ws) B.pre
  have hl := lv_entry As (n := nL) (by rw [lg1_len As hcat]; exact hlen)
  rw [lg_entry_eq]
  generalize (lg_sl As ++ List.replicate (nL - (lg_sl As).length) Slot.unset).toArray = ls at hl ⊢
  rw [lv1_eq As 0 hcat] at hl
  have w := body p e (hp_rm fr lo S) s m As.toArray below meth c ⟨B.exec, B.bytes, hml, findClass_of_methodNamed B.named, fun w hw => hts w (List.mem_cons_of_mem _ hw), hK, hR, rfl, rfl, B.notSynchronized, hst, rfl, rfl⟩ (vx_table (x := y) B (hts _ List.mem_cons_self)) hN B.returns ls hl s.heap [] hR (fun z hz => nomatch hz) hB (fun _ _ => rfl)
  rw [Nat.sub_self, Nat.sub_self] at w
  exact w
theorem run_SW (C : hp_C p l e R s m args below meth c b D dA S0 own cc nL fr lo) (hN : hp_N s) {y : MethodName} {cc' : ByteArray} {maxL n idx fr' lo' rk : Nat} {ret : Option FieldType} {hh : List (Nat × Nat × Nat × Nat)} {As rest : List Value} {q : RS} (hM : hp_MW l b D dA y cc' maxL ret hh fr' lo' As S rk q) (hc : cw_ok own idx y cc' maxL n ret hh) (hn9 : As.length = n) (hls : ls.size = nL) (hW : (rest.map fun v => v.category).sum ≤ 8) (hfr : fr' + 1 ≤ fr) (hlo : 8 + (maxL + 11) + lo' ≤ lo) (d : decode cc pc = .ok (.invokestatic idx, 3)) :
    hp_run p l e R s m args below meth c b D dA S0 S pc ls (As.reverse ++ rest) rest rk q := by
  intro H locs q1 q3 q4
  obtain ⟨w1, w2, w3, w5, w6⟩ := hc
  have hts := C.2.2.2.2.1
  have hG : GoodIn hp_ws (va_wsS own idx y (Cond.codeWith y cc' maxL ret hh :: hp_ws)) := gd_of fun w hw => by
    unfold va_wsS at hw
    simp only [List.cons_append, List.nil_append, List.mem_cons] at hw
    rcases hw with rfl | rfl | rfl | rfl | hw
    · exact w1
    · exact w2
    · exact w3
    · exact w5
    · exact hw
  exact vx_runSX (As := As) (rest := rest) ⟨C.1, C.2.1, C.2.2.1, C.2.2.2.1, hts⟩ hM (vx_cwSW n hts hG rfl rfl rfl w6 (hp_fr C hfr hlo)) ⟨hp_blindN, fun U hU hW9 => ⟨hp_preAt C q1 q3 q4 U hU hW9, hp_N.moved hW9.alike hN⟩⟩ rfl hn9 hls rfl (lv_room hW) d (hp_room C q3)
end J
