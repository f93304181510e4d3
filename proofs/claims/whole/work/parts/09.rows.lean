def hp_ty (dA : Nat → ClassId) : List (ClassId × FieldType) := [(dA 8, .int), (dA 9, .boolean), (dA 10, .object RX3), (dA 11, .object RX4), (dA 12, .array .int), (dA 13, .long)]
/-- words of the tables that a callee can't take over by itself: they go along as facts -/
def hp_bad : List Cond := [.methodLinkNest RX5 21 yX2_init RX5, .methodLinkNest RX5 28 yX1_init RX5, .methodLinkNest RX4 43 yX5_isSameRow RX5, .castable "[I" "java/lang/Cloneable",
  .castable "java/lang/IllegalStateException" "java/lang/IllegalStateException", .castable "java/lang/IllegalArgumentException" "java/lang/IllegalArgumentException", .castable "java/lang/IndexOutOfBoundsException" "java/lang/IndexOutOfBoundsException", .castable "java/lang/UnsupportedOperationException" "java/lang/UnsupportedOperationException",
  .declares ⟨"java/lang/RuntimeException", "<init>", "()V"⟩, .declares ⟨"java/lang/Exception", "<init>", "()V"⟩, .declares ⟨"java/lang/Throwable", "<init>", "()V"⟩]
def hp_K (b : Nat) (D : va_G) (dA : Nat → ClassId) (U : State) : Prop :=
  va_K D vwCl (hp_ty dA) U ∧ (∀ w ∈ hp_bad, va_Nw w U) ∧ va_AO RX3 U ∧ va_AO RX4 U ∧ (∀ A, (Cond.arrayOver (.array .int)).before A U = true) ∧
  vx_Zq Bundle.tN "UNASSIGNED_STACK" Bundle.steD (fun q => b ≤ q) U U.heap ∧ vx_Zq Bundle.tN "SUPPRESSED_SENTINEL" Bundle.listD (fun q => b ≤ q) U U.heap
def hp_ws : List Cond := lw_tbl.filter goodWord
theorem hp_in {w : Cond} (h : w ∈ lw_tbl) (g : goodWord w = true) : w ∈ hp_ws := List.mem_filter.mpr ⟨h, g⟩
def hp_B (S0 S : AS) : Prop := hn S0 ≤ hn S ∧ hn S ≤ CM ∧ hu S0 ≤ hu S ∧ hu S ≤ UM
def exN (k : Nat) : String := if k = 1 then "java/lang/IndexOutOfBoundsException" else if k = 2 then "java/lang/IllegalStateException" else if k = 3 then "java/lang/IllegalArgumentException" else "java/lang/UnsupportedOperationException"
def rvv (b rk : Nat) (x : Int × Option Nat) : Option Value := if rk = 0 then none else if rk = 1 then some (iv x.1) else some (rf b x.2)
def hp_pre (b : Nat) (D : va_G) (dA : Nat → ClassId) (As : List Value) (S : AS) : Array Value → State → Prop := va_Pc As (fun U => hp_R b D dA S U.heap ∧ hp_K b D dA U ∧ hp_B S S)
def hp_post (b : Nat) (D : va_G) (dA : Nat → ClassId) (S : AS) (rk : Nat) (q : RS) : Array Value → State → Outcome → State → Prop := fun _ st o t =>
  q.1.1 = 0 ∧ o = .returned (rvv b rk q.1.2) ∧ (rk = 1 → inR q.1.2.1) ∧ hp_R b D dA q.2 t.heap ∧ hp_B S q.2 ∧ ∀ x, x < b → t.heap[x]? = st.heap[x]?
def hp_exc (b : Nat) (D : va_G) (dA : Nat → ClassId) (S : AS) (q : RS) : String → State → State → Prop := fun E st t =>
  q.1.1 ≠ 0 ∧ E = exN q.1.1 ∧ hp_R b D dA q.2 t.heap ∧ hp_B S q.2 ∧ ∀ x, x < b → t.heap[x]? = st.heap[x]?
def hp_rm (fr lo : Nat) (S : AS) : Room := { frames := fr, cells := CM - hn S, slots := UM - hu S, locals := lo }
/-- A METHOD'S CONTRACT: from the picture S, with these arguments, it ends as q says -/
def hp_M (l : Launch) (b : Nat) (D : va_G) (dA : Nat → ClassId) (y : MethodName) (cc : ByteArray) (maxL : Nat) (ret : Option FieldType) (fr lo : Nat) (As : List Value) (S : AS) (rk : Nat) (q : RS) : Prop :=
  vx_Met l y (.code y cc maxL ret :: hp_ws) (hp_rm fr lo S) (hp_pre b D dA As S) (hp_post b D dA S rk q) (hp_exc b D dA S q) (CM - hn S) (UM - hu S) (fun z => b ≤ z)
section J
variable {p : Program} {l : Launch} {e : Env} {R : Room} {s : State} {m : MethodId} {args : Array Value} {below : List Frame} {meth : Method} {c : Code}
variable {b : Nat} {D : va_G} {dA : Nat → ClassId} {S0 S S' : AS} {Q : State → Prop} {own : String} {cc : ByteArray} {nL pc : Nat} {ls : Array Slot} {st : List Value}
/-- THE WALK: at pc, with the picture S -/
def hp_J (p : Program) (l : Launch) (e : Env) (R : Room) (s : State) (m : MethodId) (args : Array Value) (below : List Frame) (meth : Method) (c : Code) (b : Nat) (D : va_G) (dA : Nat → ClassId) (S0 : AS) (Q : State → Prop) (S : AS) (pc : Nat) (ls : Array Slot) (st : List Value) : Prop :=
  ∀ (H : Heap) (locs : List Loc), hp_R b D dA S H → (∀ z ∈ locs, b ≤ z.base) → hp_B S0 S → (∀ x, x < b → H[x]? = s.heap[x]?) → W p l e R s m args below meth c H locs (hn S - hn S0) (hu S - hu S0) Q (F0 m pc ls st)
/-- what stands fast in it -/
def hp_C (p : Program) (l : Launch) (e : Env) (R : Room) (s : State) (m : MethodId) (args : Array Value) (below : List Frame) (meth : Method) (c : Code) (b : Nat) (D : va_G) (dA : Nat → ClassId) (S0 : AS) (own : String) (cc : ByteArray) (nL fr lo : Nat) : Prop :=
  p.tables.exec = Jvm.exec ∧ c.code = cc ∧ c.maxLocals = nL ∧ s.vm.findClass own = some m.cls ∧ (∀ w ∈ hp_ws, w.before args s = true) ∧ hp_K b D dA s ∧ hp_R b D dA S0 s.heap ∧ R.cells = CM - hn S0 ∧ R.slots = UM - hu S0 ∧ meth.locks = false ∧ l.stackTraces = false ∧ R.frames = fr ∧ R.locals = lo
variable {fr lo : Nat}
/-! rows that leave the heap alone: out of rows of the kit for any heap -/
theorem j_of {pc' : Nat} {ls' : Array Slot} {st' : List Value} (h : ∀ (H : Heap) (locs : List Loc) (cells slots : Nat), W p l e R s m args below meth c H locs (cells) (slots) Q (F0 m (pc') ls' (st')) → W p l e R s m args below meth c H locs (cells) (slots) Q (F0 m (pc) ls (st))) (k : hp_J p l e R s m args below meth c b D dA S0 Q S pc' ls' st') : hp_J p l e R s m args below meth c b D dA S0 Q S pc ls st :=
  fun H locs h1 h2 h3 h4 => h H locs _ _ (k H locs h1 h2 h3 h4)
theorem j_iconst (C : hp_C p l e R s m args below meth c b D dA S0 own cc nL fr lo) {n : Int} (d : decode cc pc = .ok (.iconst n, 1)) (k : hp_J p l e R s m args below meth c b D dA S0 Q S (pc + 1) ls (iv n :: st)) : hp_J p l e R s m args below meth c b D dA S0 Q S pc ls st :=
  j_of (fun _ _ _ _ h => lv_iconst C.1 C.2.1 d rfl h) k
theorem j_bipush (C : hp_C p l e R s m args below meth c b D dA S0 own cc nL fr lo) {n x : Int} (d : decode cc pc = .ok (.bipush n, 2)) (hx : (Int8.ofInt n).toInt32 = Int32.ofInt x) (k : hp_J p l e R s m args below meth c b D dA S0 Q S (pc + 2) ls (iv x :: st)) : hp_J p l e R s m args below meth c b D dA S0 Q S pc ls st :=
  j_of (fun _ _ _ _ h => lv_bipush C.1 C.2.1 d hx h) k
theorem j_sipush (C : hp_C p l e R s m args below meth c b D dA S0 own cc nL fr lo) {n x : Int} (d : decode cc pc = .ok (.sipush n, 3)) (hx : (Int16.ofInt n).toInt32 = Int32.ofInt x) (k : hp_J p l e R s m args below meth c b D dA S0 Q S (pc + 3) ls (iv x :: st)) : hp_J p l e R s m args below meth c b D dA S0 Q S pc ls st :=
  j_of (fun _ _ _ _ h => lv_sipush C.1 C.2.1 d hx h) k
theorem j_ldc (C : hp_C p l e R s m args below meth c b D dA S0 own cc nL fr lo) {idx : Nat} {x : Int} (d : decode cc pc = .ok (.ldc idx, 2)) (hw : Cond.constant own idx (Int32.ofInt x) ∈ hp_ws) (k : hp_J p l e R s m args below meth c b D dA S0 Q S (pc + 2) ls (iv x :: st)) : hp_J p l e R s m args below meth c b D dA S0 Q S pc ls st :=
  j_of (fun _ _ _ _ h => lv_ldc C.1 C.2.1 C.2.2.2.1 (C.2.2.2.2.1 _ hw) d h) k
theorem j_iload_n (C : hp_C p l e R s m args below meth c b D dA S0 own cc nL fr lo) {k9 : Fin 4} {i : Nat} {x : Int} (d : decode cc pc = .ok (.iload_n k9, 1)) (hi : (k9 : Nat) = i) (hl : ls[i]? = some (.val (iv x))) (k : hp_J p l e R s m args below meth c b D dA S0 Q S (pc + 1) ls (iv x :: st)) : hp_J p l e R s m args below meth c b D dA S0 Q S pc ls st :=
  j_of (fun _ _ _ _ h => lv_iload_n C.1 C.2.1 d hi hl h) k
theorem j_iload (C : hp_C p l e R s m args below meth c b D dA S0 own cc nL fr lo) {i : Nat} {x : Int} (d : decode cc pc = .ok (.iload i, 2)) (hl : ls[i]? = some (.val (iv x))) (k : hp_J p l e R s m args below meth c b D dA S0 Q S (pc + 2) ls (iv x :: st)) : hp_J p l e R s m args below meth c b D dA S0 Q S pc ls st :=
  j_of (fun _ _ _ _ h => lv_iload C.1 C.2.1 d hl h) k
theorem j_aload_n (C : hp_C p l e R s m args below meth c b D dA S0 own cc nL fr lo) {k9 : Fin 4} {i : Nat} {x : Option Nat} (d : decode cc pc = .ok (.aload_n k9, 1)) (hi : (k9 : Nat) = i) (hl : ls[i]? = some (.val (rf b x))) (k : hp_J p l e R s m args below meth c b D dA S0 Q S (pc + 1) ls (rf b x :: st)) : hp_J p l e R s m args below meth c b D dA S0 Q S pc ls st := by
  cases x with
  | none => exact j_of (fun _ _ _ _ h => lv_aload_nN C.1 C.2.1 d hi hl h) k
  | some x => exact j_of (fun _ _ _ _ h => lv_aload_n C.1 C.2.1 d hi hl h) k
theorem j_aload (C : hp_C p l e R s m args below meth c b D dA S0 own cc nL fr lo) {i : Nat} {x : Option Nat} (d : decode cc pc = .ok (.aload i, 2)) (hl : ls[i]? = some (.val (rf b x))) (k : hp_J p l e R s m args below meth c b D dA S0 Q S (pc + 2) ls (rf b x :: st)) : hp_J p l e R s m args below meth c b D dA S0 Q S pc ls st := by
  cases x with
  | none => exact j_of (fun _ _ _ _ h => lv_aloadN C.1 C.2.1 d hl h) k
  | some x => exact j_of (fun _ _ _ _ h => lv_aload C.1 C.2.1 d hl h) k
theorem j_istore_n (C : hp_C p l e R s m args below meth c b D dA S0 own cc nL fr lo) {k9 : Fin 4} {i : Nat} {x : Int} {lv lv' : List (Nat × Value)} (d : decode cc pc = .ok (.istore_n k9, 1)) (hi : (k9 : Nat) = i) (h : lv_has ls nL lv) (hn9 : i < nL) (hl : (i, iv x) :: lv.filter (fun q => !(q.1 == i) && !(q.1 + 1 == i && q.2.category == 2)) = lv') (k : ∀ ls' : Array Slot, lv_has ls' nL lv' → hp_J p l e R s m args below meth c b D dA S0 Q S (pc + 1) ls' st) : hp_J p l e R s m args below meth c b D dA S0 Q S pc ls (iv x :: st) :=
  fun H locs h1 h2 h3 h4 => lv_istore_n C.1 C.2.1 d hi h hn9 hl (fun ls' hl' => k ls' hl' H locs h1 h2 h3 h4)
theorem j_istore (C : hp_C p l e R s m args below meth c b D dA S0 own cc nL fr lo) {i : Nat} {x : Int} {lv lv' : List (Nat × Value)} (d : decode cc pc = .ok (.istore i, 2)) (h : lv_has ls nL lv) (hn9 : i < nL) (hl : (i, iv x) :: lv.filter (fun q => !(q.1 == i) && !(q.1 + 1 == i && q.2.category == 2)) = lv') (k : ∀ ls' : Array Slot, lv_has ls' nL lv' → hp_J p l e R s m args below meth c b D dA S0 Q S (pc + 2) ls' st) : hp_J p l e R s m args below meth c b D dA S0 Q S pc ls (iv x :: st) :=
  fun H locs h1 h2 h3 h4 => lv_istore C.1 C.2.1 d h hn9 hl (fun ls' hl' => k ls' hl' H locs h1 h2 h3 h4)
theorem j_astore_n (C : hp_C p l e R s m args below meth c b D dA S0 own cc nL fr lo) {k9 : Fin 4} {i : Nat} {x : Option Nat} {lv lv' : List (Nat × Value)} (d : decode cc pc = .ok (.astore_n k9, 1)) (hi : (k9 : Nat) = i) (h : lv_has ls nL lv) (hn9 : i < nL) (hl : (i, rf b x) :: lv.filter (fun q => !(q.1 == i) && !(q.1 + 1 == i && q.2.category == 2)) = lv') (k : ∀ ls' : Array Slot, lv_has ls' nL lv' → hp_J p l e R s m args below meth c b D dA S0 Q S (pc + 1) ls' st) : hp_J p l e R s m args below meth c b D dA S0 Q S pc ls (rf b x :: st) := by
  cases x with
  | none => exact fun H locs h1 h2 h3 h4 => lv_astore_nN C.1 C.2.1 d hi h hn9 hl (fun ls' hl' => k ls' hl' H locs h1 h2 h3 h4)
  | some x => exact fun H locs h1 h2 h3 h4 => lv_astore_n C.1 C.2.1 d hi h hn9 hl (fun ls' hl' => k ls' hl' H locs h1 h2 h3 h4)
theorem j_astore (C : hp_C p l e R s m args below meth c b D dA S0 own cc nL fr lo) {i : Nat} {x : Option Nat} {lv lv' : List (Nat × Value)} (d : decode cc pc = .ok (.astore i, 2)) (h : lv_has ls nL lv) (hn9 : i < nL) (hl : (i, rf b x) :: lv.filter (fun q => !(q.1 == i) && !(q.1 + 1 == i && q.2.category == 2)) = lv') (k : ∀ ls' : Array Slot, lv_has ls' nL lv' → hp_J p l e R s m args below meth c b D dA S0 Q S (pc + 2) ls' st) : hp_J p l e R s m args below meth c b D dA S0 Q S pc ls (rf b x :: st) := by
  cases x with
  | none => exact fun H locs h1 h2 h3 h4 => lv_astoreN C.1 C.2.1 d h hn9 hl (fun ls' hl' => k ls' hl' H locs h1 h2 h3 h4)
  | some x => exact fun H locs h1 h2 h3 h4 => lv_astore C.1 C.2.1 d h hn9 hl (fun ls' hl' => k ls' hl' H locs h1 h2 h3 h4)
theorem j_iinc (C : hp_C p l e R s m args below meth c b D dA S0 own cc nL fr lo) {i k9 : Nat} {n x z : Int} {lv lv' : List (Nat × Value)} (d : decode cc pc = .ok (.iinc i n, 3)) (h : lv_has ls nL lv) (hk9 : lv[k9]? = some (i, iv x)) (hz : chk (x + n) = some z) (hn9 : i < nL) (hl : (i, iv z) :: lv.filter (fun q => !(q.1 == i) && !(q.1 + 1 == i && q.2.category == 2)) = lv') (k : inR z → ∀ ls' : Array Slot, lv_has ls' nL lv' → hp_J p l e R s m args below meth c b D dA S0 Q S (pc + 3) ls' st) : hp_J p l e R s m args below meth c b D dA S0 Q S pc ls st := by
  obtain ⟨rfl, hr⟩ := chk_some hz
  exact fun H locs h1 h2 h3 h4 => lv_iinc C.1 C.2.1 d h hk9 (Int32.ofInt_add _ _).symm hn9 hl (fun ls' hl' => k hr ls' hl' H locs h1 h2 h3 h4)
theorem cat_iv (x : Int) : (iv x).category = 1 := rfl
theorem cat_rf (b : Nat) (r : Option Nat) : (rf b r).category = 1 := by cases r <;> rfl
theorem j_dup (C : hp_C p l e R s m args below meth c b D dA S0 own cc nL fr lo) {v : Value} (d : decode cc pc = .ok (.dup, 1)) (hv : v.category = 1) (k : hp_J p l e R s m args below meth c b D dA S0 Q S (pc + 1) ls (v :: v :: st)) : hp_J p l e R s m args below meth c b D dA S0 Q S pc ls (v :: st) :=
  j_of (fun _ _ _ _ h => lv_dup C.1 C.2.1 d hv h) k
theorem j_dup2 (C : hp_C p l e R s m args below meth c b D dA S0 own cc nL fr lo) {v w : Value} (d : decode cc pc = .ok (.dup2, 1)) (hv : v.category = 1) (hw : w.category = 1) (k : hp_J p l e R s m args below meth c b D dA S0 Q S (pc + 1) ls (v :: w :: v :: w :: st)) : hp_J p l e R s m args below meth c b D dA S0 Q S pc ls (v :: w :: st) :=
  j_of (fun _ _ _ _ h => lv_dup2_11 C.1 C.2.1 d hv hw h) k
theorem j_pop (C : hp_C p l e R s m args below meth c b D dA S0 own cc nL fr lo) {v : Value} (d : decode cc pc = .ok (.pop, 1)) (hv : v.category = 1) (k : hp_J p l e R s m args below meth c b D dA S0 Q S (pc + 1) ls st) : hp_J p l e R s m args below meth c b D dA S0 Q S pc ls (v :: st) :=
  j_of (fun _ _ _ _ h => lv_pop C.1 C.2.1 d hv h) k
theorem j_goto (C : hp_C p l e R s m args below meth c b D dA S0 own cc nL fr lo) {off : Int} {tgt : Nat} (d : decode cc pc = .ok (.goto off, 3)) (ht : (pc : Int) + off = (tgt : Int)) (k : hp_J p l e R s m args below meth c b D dA S0 Q S tgt ls st) : hp_J p l e R s m args below meth c b D dA S0 Q S pc ls st :=
  j_of (fun _ _ _ _ h => lv_goto C.1 C.2.1 d ht h) k
theorem j_iadd (C : hp_C p l e R s m args below meth c b D dA S0 own cc nL fr lo) {x y z : Int} (d : decode cc pc = .ok (.iadd, 1)) (hz : chk (x + y) = some z) (k : inR z → hp_J p l e R s m args below meth c b D dA S0 Q S (pc + 1) ls (iv z :: st)) : hp_J p l e R s m args below meth c b D dA S0 Q S pc ls (iv y :: iv x :: st) := by
  obtain ⟨rfl, hr⟩ := chk_some hz
  exact j_of (fun _ _ _ _ h => lv_iadd C.1 C.2.1 d (by rw [← Int32.ofInt_add]; exact h)) (k hr)
theorem j_isub (C : hp_C p l e R s m args below meth c b D dA S0 own cc nL fr lo) {x y z : Int} (d : decode cc pc = .ok (.isub, 1)) (hz : chk (x - y) = some z) (k : inR z → hp_J p l e R s m args below meth c b D dA S0 Q S (pc + 1) ls (iv z :: st)) : hp_J p l e R s m args below meth c b D dA S0 Q S pc ls (iv y :: iv x :: st) := by
  obtain ⟨rfl, hr⟩ := chk_some hz
  exact j_of (fun _ _ _ _ h => lv_isub C.1 C.2.1 d (by rw [← Int32.ofInt_sub]; exact h)) (k hr)
theorem j_imul (C : hp_C p l e R s m args below meth c b D dA S0 own cc nL fr lo) {x y z : Int} (d : decode cc pc = .ok (.imul, 1)) (hz : chk (x * y) = some z) (k : inR z → hp_J p l e R s m args below meth c b D dA S0 Q S (pc + 1) ls (iv z :: st)) : hp_J p l e R s m args below meth c b D dA S0 Q S pc ls (iv y :: iv x :: st) := by
  obtain ⟨rfl, hr⟩ := chk_some hz
  exact j_of (fun _ _ _ _ h => lv_imul C.1 C.2.1 d (by rw [← Int32.ofInt_mul]; exact h)) (k hr)
/-! branches -/
theorem j_if_eq (C : hp_C p l e R s m args below meth c b D dA S0 own cc nL fr lo) {x : Int} {off : Int} {tgt : Nat} (d : decode cc pc = .ok (.ifCond .eq off, 3)) (ht : (pc : Int) + off = (tgt : Int)) (hx : inR x) (kt : x = 0 → hp_J p l e R s m args below meth c b D dA S0 Q S tgt ls st) (kf : ¬ (x = 0) → hp_J p l e R s m args below meth c b D dA S0 Q S (pc + 3) ls st) : hp_J p l e R s m args below meth c b D dA S0 Q S pc ls (iv x :: st) := by
  have e0 := iv_z
  have h0 : inR 0 := by decide
  have q1 := iv_inj hx h0
  have q2 := iv_lt hx h0
  have q3 := iv_le hx h0
  have q4 := iv_lt h0 hx
  have q5 := iv_le h0 hx
  rw [← e0] at q1 q2 q3 q4 q5
  exact fun H locs h1 h2 h3 h4 => lv_if_eq C.1 C.2.1 d ht (fun q => kt (by first | exact q1.mp q | exact q2.mp q | exact q3.mp q | exact q4.mp q | exact q5.mp q | (intro z; exact q (q1.mpr z))) H locs h1 h2 h3 h4) (fun q => kf (by first | (intro z; exact q (q1.mpr z)) | (intro z; exact q (q2.mpr z)) | (intro z; exact q (q3.mpr z)) | (intro z; exact q (q4.mpr z)) | (intro z; exact q (q5.mpr z)) | (intro z; first | exact q (fun g => z (q1.mp g)) | exact z (q1.mp q))) H locs h1 h2 h3 h4)
theorem j_if_ne (C : hp_C p l e R s m args below meth c b D dA S0 own cc nL fr lo) {x : Int} {off : Int} {tgt : Nat} (d : decode cc pc = .ok (.ifCond .ne off, 3)) (ht : (pc : Int) + off = (tgt : Int)) (hx : inR x) (kt : ¬ x = 0 → hp_J p l e R s m args below meth c b D dA S0 Q S tgt ls st) (kf : ¬ (¬ x = 0) → hp_J p l e R s m args below meth c b D dA S0 Q S (pc + 3) ls st) : hp_J p l e R s m args below meth c b D dA S0 Q S pc ls (iv x :: st) := by
  have e0 := iv_z
  have h0 : inR 0 := by decide
  have q1 := iv_inj hx h0
  have q2 := iv_lt hx h0
  have q3 := iv_le hx h0
  have q4 := iv_lt h0 hx
  have q5 := iv_le h0 hx
  rw [← e0] at q1 q2 q3 q4 q5
  exact fun H locs h1 h2 h3 h4 => lv_if_ne C.1 C.2.1 d ht (fun q => kt (by first | exact q1.mp q | exact q2.mp q | exact q3.mp q | exact q4.mp q | exact q5.mp q | (intro z; exact q (q1.mpr z))) H locs h1 h2 h3 h4) (fun q => kf (by first | (intro z; exact q (q1.mpr z)) | (intro z; exact q (q2.mpr z)) | (intro z; exact q (q3.mpr z)) | (intro z; exact q (q4.mpr z)) | (intro z; exact q (q5.mpr z)) | (intro z; first | exact q (fun g => z (q1.mp g)) | exact z (q1.mp q))) H locs h1 h2 h3 h4)
theorem j_if_lt (C : hp_C p l e R s m args below meth c b D dA S0 own cc nL fr lo) {x : Int} {off : Int} {tgt : Nat} (d : decode cc pc = .ok (.ifCond .lt off, 3)) (ht : (pc : Int) + off = (tgt : Int)) (hx : inR x) (kt : x < 0 → hp_J p l e R s m args below meth c b D dA S0 Q S tgt ls st) (kf : ¬ (x < 0) → hp_J p l e R s m args below meth c b D dA S0 Q S (pc + 3) ls st) : hp_J p l e R s m args below meth c b D dA S0 Q S pc ls (iv x :: st) := by
  have e0 := iv_z
  have h0 : inR 0 := by decide
  have q1 := iv_inj hx h0
  have q2 := iv_lt hx h0
  have q3 := iv_le hx h0
  have q4 := iv_lt h0 hx
  have q5 := iv_le h0 hx
  rw [← e0] at q1 q2 q3 q4 q5
  exact fun H locs h1 h2 h3 h4 => lv_if_lt C.1 C.2.1 d ht (fun q => kt (by first | exact q1.mp q | exact q2.mp q | exact q3.mp q | exact q4.mp q | exact q5.mp q | (intro z; exact q (q1.mpr z))) H locs h1 h2 h3 h4) (fun q => kf (by first | (intro z; exact q (q1.mpr z)) | (intro z; exact q (q2.mpr z)) | (intro z; exact q (q3.mpr z)) | (intro z; exact q (q4.mpr z)) | (intro z; exact q (q5.mpr z)) | (intro z; first | exact q (fun g => z (q1.mp g)) | exact z (q1.mp q))) H locs h1 h2 h3 h4)
theorem j_if_ge (C : hp_C p l e R s m args below meth c b D dA S0 own cc nL fr lo) {x : Int} {off : Int} {tgt : Nat} (d : decode cc pc = .ok (.ifCond .ge off, 3)) (ht : (pc : Int) + off = (tgt : Int)) (hx : inR x) (kt : 0 ≤ x → hp_J p l e R s m args below meth c b D dA S0 Q S tgt ls st) (kf : ¬ (0 ≤ x) → hp_J p l e R s m args below meth c b D dA S0 Q S (pc + 3) ls st) : hp_J p l e R s m args below meth c b D dA S0 Q S pc ls (iv x :: st) := by
  have e0 := iv_z
  have h0 : inR 0 := by decide
  have q1 := iv_inj hx h0
  have q2 := iv_lt hx h0
  have q3 := iv_le hx h0
  have q4 := iv_lt h0 hx
  have q5 := iv_le h0 hx
  rw [← e0] at q1 q2 q3 q4 q5
  exact fun H locs h1 h2 h3 h4 => lv_if_ge C.1 C.2.1 d ht (fun q => kt (by first | exact q1.mp q | exact q2.mp q | exact q3.mp q | exact q4.mp q | exact q5.mp q | (intro z; exact q (q1.mpr z))) H locs h1 h2 h3 h4) (fun q => kf (by first | (intro z; exact q (q1.mpr z)) | (intro z; exact q (q2.mpr z)) | (intro z; exact q (q3.mpr z)) | (intro z; exact q (q4.mpr z)) | (intro z; exact q (q5.mpr z)) | (intro z; first | exact q (fun g => z (q1.mp g)) | exact z (q1.mp q))) H locs h1 h2 h3 h4)
theorem j_if_gt (C : hp_C p l e R s m args below meth c b D dA S0 own cc nL fr lo) {x : Int} {off : Int} {tgt : Nat} (d : decode cc pc = .ok (.ifCond .gt off, 3)) (ht : (pc : Int) + off = (tgt : Int)) (hx : inR x) (kt : 0 < x → hp_J p l e R s m args below meth c b D dA S0 Q S tgt ls st) (kf : ¬ (0 < x) → hp_J p l e R s m args below meth c b D dA S0 Q S (pc + 3) ls st) : hp_J p l e R s m args below meth c b D dA S0 Q S pc ls (iv x :: st) := by
  have e0 := iv_z
  have h0 : inR 0 := by decide
  have q1 := iv_inj hx h0
  have q2 := iv_lt hx h0
  have q3 := iv_le hx h0
  have q4 := iv_lt h0 hx
  have q5 := iv_le h0 hx
  rw [← e0] at q1 q2 q3 q4 q5
  exact fun H locs h1 h2 h3 h4 => lv_if_gt C.1 C.2.1 d ht (fun q => kt (by first | exact q1.mp q | exact q2.mp q | exact q3.mp q | exact q4.mp q | exact q5.mp q | (intro z; exact q (q1.mpr z))) H locs h1 h2 h3 h4) (fun q => kf (by first | (intro z; exact q (q1.mpr z)) | (intro z; exact q (q2.mpr z)) | (intro z; exact q (q3.mpr z)) | (intro z; exact q (q4.mpr z)) | (intro z; exact q (q5.mpr z)) | (intro z; first | exact q (fun g => z (q1.mp g)) | exact z (q1.mp q))) H locs h1 h2 h3 h4)
theorem j_if_le (C : hp_C p l e R s m args below meth c b D dA S0 own cc nL fr lo) {x : Int} {off : Int} {tgt : Nat} (d : decode cc pc = .ok (.ifCond .le off, 3)) (ht : (pc : Int) + off = (tgt : Int)) (hx : inR x) (kt : x ≤ 0 → hp_J p l e R s m args below meth c b D dA S0 Q S tgt ls st) (kf : ¬ (x ≤ 0) → hp_J p l e R s m args below meth c b D dA S0 Q S (pc + 3) ls st) : hp_J p l e R s m args below meth c b D dA S0 Q S pc ls (iv x :: st) := by
  have e0 := iv_z
  have h0 : inR 0 := by decide
  have q1 := iv_inj hx h0
  have q2 := iv_lt hx h0
  have q3 := iv_le hx h0
  have q4 := iv_lt h0 hx
  have q5 := iv_le h0 hx
  rw [← e0] at q1 q2 q3 q4 q5
  exact fun H locs h1 h2 h3 h4 => lv_if_le C.1 C.2.1 d ht (fun q => kt (by first | exact q1.mp q | exact q2.mp q | exact q3.mp q | exact q4.mp q | exact q5.mp q | (intro z; exact q (q1.mpr z))) H locs h1 h2 h3 h4) (fun q => kf (by first | (intro z; exact q (q1.mpr z)) | (intro z; exact q (q2.mpr z)) | (intro z; exact q (q3.mpr z)) | (intro z; exact q (q4.mpr z)) | (intro z; exact q (q5.mpr z)) | (intro z; first | exact q (fun g => z (q1.mp g)) | exact z (q1.mp q))) H locs h1 h2 h3 h4)
theorem j_icmp_eq (C : hp_C p l e R s m args below meth c b D dA S0 own cc nL fr lo) {x y : Int} {off : Int} {tgt : Nat} (d : decode cc pc = .ok (.if_icmp .eq off, 3)) (ht : (pc : Int) + off = (tgt : Int)) (hx : inR x) (hy : inR y) (kt : x = y → hp_J p l e R s m args below meth c b D dA S0 Q S tgt ls st) (kf : ¬ (x = y) → hp_J p l e R s m args below meth c b D dA S0 Q S (pc + 3) ls st) : hp_J p l e R s m args below meth c b D dA S0 Q S pc ls (iv y :: iv x :: st) := by
  have q1 := iv_inj hx hy
  have q2 := iv_lt hx hy
  have q3 := iv_le hx hy
  have q4 := iv_lt hy hx
  have q5 := iv_le hy hx
  exact fun H locs h1 h2 h3 h4 => lv_icmp_eq C.1 C.2.1 d ht (fun q => kt (by first | exact q1.mp q | exact q2.mp q | exact q3.mp q | exact q4.mp q | exact q5.mp q | (intro z; exact q (q1.mpr z))) H locs h1 h2 h3 h4) (fun q => kf (by first | (intro z; exact q (q1.mpr z)) | (intro z; exact q (q2.mpr z)) | (intro z; exact q (q3.mpr z)) | (intro z; exact q (q4.mpr z)) | (intro z; exact q (q5.mpr z)) | (intro z; first | exact q (fun g => z (q1.mp g)) | exact z (q1.mp q))) H locs h1 h2 h3 h4)
theorem j_icmp_ne (C : hp_C p l e R s m args below meth c b D dA S0 own cc nL fr lo) {x y : Int} {off : Int} {tgt : Nat} (d : decode cc pc = .ok (.if_icmp .ne off, 3)) (ht : (pc : Int) + off = (tgt : Int)) (hx : inR x) (hy : inR y) (kt : ¬ x = y → hp_J p l e R s m args below meth c b D dA S0 Q S tgt ls st) (kf : ¬ (¬ x = y) → hp_J p l e R s m args below meth c b D dA S0 Q S (pc + 3) ls st) : hp_J p l e R s m args below meth c b D dA S0 Q S pc ls (iv y :: iv x :: st) := by
  have q1 := iv_inj hx hy
  have q2 := iv_lt hx hy
  have q3 := iv_le hx hy
  have q4 := iv_lt hy hx
  have q5 := iv_le hy hx
  exact fun H locs h1 h2 h3 h4 => lv_icmp_ne C.1 C.2.1 d ht (fun q => kt (by first | exact q1.mp q | exact q2.mp q | exact q3.mp q | exact q4.mp q | exact q5.mp q | (intro z; exact q (q1.mpr z))) H locs h1 h2 h3 h4) (fun q => kf (by first | (intro z; exact q (q1.mpr z)) | (intro z; exact q (q2.mpr z)) | (intro z; exact q (q3.mpr z)) | (intro z; exact q (q4.mpr z)) | (intro z; exact q (q5.mpr z)) | (intro z; first | exact q (fun g => z (q1.mp g)) | exact z (q1.mp q))) H locs h1 h2 h3 h4)
theorem j_icmp_lt (C : hp_C p l e R s m args below meth c b D dA S0 own cc nL fr lo) {x y : Int} {off : Int} {tgt : Nat} (d : decode cc pc = .ok (.if_icmp .lt off, 3)) (ht : (pc : Int) + off = (tgt : Int)) (hx : inR x) (hy : inR y) (kt : x < y → hp_J p l e R s m args below meth c b D dA S0 Q S tgt ls st) (kf : ¬ (x < y) → hp_J p l e R s m args below meth c b D dA S0 Q S (pc + 3) ls st) : hp_J p l e R s m args below meth c b D dA S0 Q S pc ls (iv y :: iv x :: st) := by
  have q1 := iv_inj hx hy
  have q2 := iv_lt hx hy
  have q3 := iv_le hx hy
  have q4 := iv_lt hy hx
  have q5 := iv_le hy hx
  exact fun H locs h1 h2 h3 h4 => lv_icmp_lt C.1 C.2.1 d ht (fun q => kt (by first | exact q1.mp q | exact q2.mp q | exact q3.mp q | exact q4.mp q | exact q5.mp q | (intro z; exact q (q1.mpr z))) H locs h1 h2 h3 h4) (fun q => kf (by first | (intro z; exact q (q1.mpr z)) | (intro z; exact q (q2.mpr z)) | (intro z; exact q (q3.mpr z)) | (intro z; exact q (q4.mpr z)) | (intro z; exact q (q5.mpr z)) | (intro z; first | exact q (fun g => z (q1.mp g)) | exact z (q1.mp q))) H locs h1 h2 h3 h4)
theorem j_icmp_ge (C : hp_C p l e R s m args below meth c b D dA S0 own cc nL fr lo) {x y : Int} {off : Int} {tgt : Nat} (d : decode cc pc = .ok (.if_icmp .ge off, 3)) (ht : (pc : Int) + off = (tgt : Int)) (hx : inR x) (hy : inR y) (kt : y ≤ x → hp_J p l e R s m args below meth c b D dA S0 Q S tgt ls st) (kf : ¬ (y ≤ x) → hp_J p l e R s m args below meth c b D dA S0 Q S (pc + 3) ls st) : hp_J p l e R s m args below meth c b D dA S0 Q S pc ls (iv y :: iv x :: st) := by
  have q1 := iv_inj hx hy
  have q2 := iv_lt hx hy
  have q3 := iv_le hx hy
  have q4 := iv_lt hy hx
  have q5 := iv_le hy hx
  exact fun H locs h1 h2 h3 h4 => lv_icmp_ge C.1 C.2.1 d ht (fun q => kt (by first | exact q1.mp q | exact q2.mp q | exact q3.mp q | exact q4.mp q | exact q5.mp q | (intro z; exact q (q1.mpr z))) H locs h1 h2 h3 h4) (fun q => kf (by first | (intro z; exact q (q1.mpr z)) | (intro z; exact q (q2.mpr z)) | (intro z; exact q (q3.mpr z)) | (intro z; exact q (q4.mpr z)) | (intro z; exact q (q5.mpr z)) | (intro z; first | exact q (fun g => z (q1.mp g)) | exact z (q1.mp q))) H locs h1 h2 h3 h4)
theorem j_icmp_gt (C : hp_C p l e R s m args below meth c b D dA S0 own cc nL fr lo) {x y : Int} {off : Int} {tgt : Nat} (d : decode cc pc = .ok (.if_icmp .gt off, 3)) (ht : (pc : Int) + off = (tgt : Int)) (hx : inR x) (hy : inR y) (kt : y < x → hp_J p l e R s m args below meth c b D dA S0 Q S tgt ls st) (kf : ¬ (y < x) → hp_J p l e R s m args below meth c b D dA S0 Q S (pc + 3) ls st) : hp_J p l e R s m args below meth c b D dA S0 Q S pc ls (iv y :: iv x :: st) := by
  have q1 := iv_inj hx hy
  have q2 := iv_lt hx hy
  have q3 := iv_le hx hy
  have q4 := iv_lt hy hx
  have q5 := iv_le hy hx
  exact fun H locs h1 h2 h3 h4 => lv_icmp_gt C.1 C.2.1 d ht (fun q => kt (by first | exact q1.mp q | exact q2.mp q | exact q3.mp q | exact q4.mp q | exact q5.mp q | (intro z; exact q (q1.mpr z))) H locs h1 h2 h3 h4) (fun q => kf (by first | (intro z; exact q (q1.mpr z)) | (intro z; exact q (q2.mpr z)) | (intro z; exact q (q3.mpr z)) | (intro z; exact q (q4.mpr z)) | (intro z; exact q (q5.mpr z)) | (intro z; first | exact q (fun g => z (q1.mp g)) | exact z (q1.mp q))) H locs h1 h2 h3 h4)
theorem j_icmp_le (C : hp_C p l e R s m args below meth c b D dA S0 own cc nL fr lo) {x y : Int} {off : Int} {tgt : Nat} (d : decode cc pc = .ok (.if_icmp .le off, 3)) (ht : (pc : Int) + off = (tgt : Int)) (hx : inR x) (hy : inR y) (kt : x ≤ y → hp_J p l e R s m args below meth c b D dA S0 Q S tgt ls st) (kf : ¬ (x ≤ y) → hp_J p l e R s m args below meth c b D dA S0 Q S (pc + 3) ls st) : hp_J p l e R s m args below meth c b D dA S0 Q S pc ls (iv y :: iv x :: st) := by
  have q1 := iv_inj hx hy
  have q2 := iv_lt hx hy
  have q3 := iv_le hx hy
  have q4 := iv_lt hy hx
  have q5 := iv_le hy hx
  exact fun H locs h1 h2 h3 h4 => lv_icmp_le C.1 C.2.1 d ht (fun q => kt (by first | exact q1.mp q | exact q2.mp q | exact q3.mp q | exact q4.mp q | exact q5.mp q | (intro z; exact q (q1.mpr z))) H locs h1 h2 h3 h4) (fun q => kf (by first | (intro z; exact q (q1.mpr z)) | (intro z; exact q (q2.mpr z)) | (intro z; exact q (q3.mpr z)) | (intro z; exact q (q4.mpr z)) | (intro z; exact q (q5.mpr z)) | (intro z; first | exact q (fun g => z (q1.mp g)) | exact z (q1.mp q))) H locs h1 h2 h3 h4)
theorem j_acmp_eq (C : hp_C p l e R s m args below meth c b D dA S0 own cc nL fr lo) {rx ry : Option Nat} {off : Int} {tgt : Nat} (d : decode cc pc = .ok (.if_acmp .eq off, 3)) (ht : (pc : Int) + off = (tgt : Int)) (kt : rx = ry → hp_J p l e R s m args below meth c b D dA S0 Q S tgt ls st) (kf : ¬ (rx = ry) → hp_J p l e R s m args below meth c b D dA S0 Q S (pc + 3) ls st) : hp_J p l e R s m args below meth c b D dA S0 Q S pc ls (rf b ry :: rf b rx :: st) := by
  have q1 : rx.map (b + ·) = ry.map (b + ·) ↔ rx = ry := ⟨fun h => by
    cases rx <;> cases ry <;> simp at h ⊢
    exact h, fun h => by rw [h]⟩
  exact fun H locs h1 h2 h3 h4 => lv_acmp_eq C.1 C.2.1 d ht (fun q => kt (by first | exact q1.mp q | (intro z; exact q (q1.mpr z))) H locs h1 h2 h3 h4) (fun q => kf (by first | (intro z; exact q (q1.mpr z)) | (intro z; exact z (q1.mp q))) H locs h1 h2 h3 h4)
theorem j_acmp_ne (C : hp_C p l e R s m args below meth c b D dA S0 own cc nL fr lo) {rx ry : Option Nat} {off : Int} {tgt : Nat} (d : decode cc pc = .ok (.if_acmp .ne off, 3)) (ht : (pc : Int) + off = (tgt : Int)) (kt : ¬ rx = ry → hp_J p l e R s m args below meth c b D dA S0 Q S tgt ls st) (kf : ¬ (¬ rx = ry) → hp_J p l e R s m args below meth c b D dA S0 Q S (pc + 3) ls st) : hp_J p l e R s m args below meth c b D dA S0 Q S pc ls (rf b ry :: rf b rx :: st) := by
  have q1 : rx.map (b + ·) = ry.map (b + ·) ↔ rx = ry := ⟨fun h => by
    cases rx <;> cases ry <;> simp at h ⊢
    exact h, fun h => by rw [h]⟩
  exact fun H locs h1 h2 h3 h4 => lv_acmp_ne C.1 C.2.1 d ht (fun q => kt (by first | exact q1.mp q | (intro z; exact q (q1.mpr z))) H locs h1 h2 h3 h4) (fun q => kf (by first | (intro z; exact q (q1.mpr z)) | (intro z; exact z (q1.mp q))) H locs h1 h2 h3 h4)
end J
