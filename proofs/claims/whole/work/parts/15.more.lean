theorem kl_same : Cond.sameMethod "[I" "java/lang/Object" "clone" "()Ljava/lang/Object;" ∈ hp_ws := mw 415 (by decide +kernel)
theorem kl_nat : Cond.native ⟨"java/lang/Object", "clone", "()Ljava/lang/Object;"⟩ ∈ hp_ws := mw 416 (by decide +kernel)
theorem kl_inst : Cond.instanceMethod ⟨"java/lang/Object", "clone", "()Ljava/lang/Object;"⟩ ∈ hp_ws := mw 417 (by decide +kernel)
theorem kl_sel : Cond.selects "[I" ⟨"[I", "clone", "()Ljava/lang/Object;"⟩ ⟨"java/lang/Object", "clone", "()Ljava/lang/Object;"⟩ ∈ hp_ws := mw 418 (by decide +kernel)
theorem hp_over {A : Array Value} {U : State} (h : (Cond.arrayOver (.array .int)).before A U = true) : ∃ comp c k, U.vm.findClass "[I" = some comp ∧ (U.vm.classes.findIdx? fun x => match x.kind with | .array component _ => component == comp | _ => false) = some c ∧ U.vm.classes[c]? = some k ∧ k.kind = .array comp (.array .int) ∧ U.vm.findClass "[[I" = some c := by
  obtain ⟨comp, c, k, h1, h2, h3, h4, h5⟩ := arrayOverA_spec h
  exact ⟨comp, c, k, h1, h2, h3, h4, h5⟩
/-! the rest of the instructions that the class uses -/
def dvI (x y : Int) : Option Int := if 0 ≤ x ∧ 0 < y then some (x / y) else none
def rmI (x y : Int) : Option Int := if 0 ≤ x ∧ 0 < y then some (x % y) else none
/-- a call that doesn't throw -/
def cM (c : Option RS) (k : Int → AS → Option RS) : Option RS := c.bind fun q => if q.1.1 = 0 then k q.1.2.1 q.2 else none
theorem cM_some {c : Option RS} {k : Int → AS → Option RS} {q : RS} (h : cM c k = some q) : ∃ S' v r, c = some ((0, v, r), S') ∧ k v S' = some q := by
  cases c with
  | none => simp [cM] at h
  | some y =>
    obtain ⟨⟨e, v, r⟩, S'⟩ := y
    simp only [cM, Option.bind_some] at h
    by_cases he : e = 0
    · subst he
      rw [if_pos rfl] at h
      exact ⟨S', v, r, rfl, h⟩
    · rw [if_neg he] at h
      cases h
def wC (S : AS) (a d sp dp n : Nat) : AS := (hn S, hu S, hk S, hl S, (fun x j => if x = d ∧ dp ≤ j ∧ j < dp + n then hI S a (sp + (j - dp)) else hI S x j), hR S)
theorem hn_wC (S : AS) (a d sp dp n : Nat) : hn (wC S a d sp dp n) = hn S := rfl
theorem hu_wC (S : AS) (a d sp dp n : Nat) : hu (wC S a d sp dp n) = hu S := rfl
theorem hk_wC (S : AS) (a d sp dp n : Nat) : hk (wC S a d sp dp n) = hk S := rfl
theorem hl_wC (S : AS) (a d sp dp n : Nat) : hl (wC S a d sp dp n) = hl S := rfl
theorem hR_wC (S : AS) (a d sp dp n : Nat) : hR (wC S a d sp dp n) = hR S := rfl
theorem hI_wC (S : AS) (a d sp dp n x j : Nat) : hI (wC S a d sp dp n) x j = if x = d ∧ dp ≤ j ∧ j < dp + n then hI S a (sp + (j - dp)) else hI S x j := rfl
def cpy (S : AS) (src : Option Nat) (sp : Int) (dst : Option Nat) (dp n : Int) (kd : Nat) : Option AS := match src, dst with
  | some a, some d => if hk S a = kd ∧ hk S d = kd ∧ 0 ≤ sp ∧ 0 ≤ dp ∧ 0 ≤ n ∧ sp + n ≤ hl S a ∧ dp + n ≤ hl S d then some (wC S a d sp.toNat dp.toNat n.toNat) else none
  | _, _ => none
theorem cpy_some {S S' : AS} {src dst : Option Nat} {sp dp n : Int} {kd : Nat} (h : cpy S src sp dst dp n kd = some S') : ∃ a d, src = some a ∧ dst = some d ∧ hk S a = kd ∧ hk S d = kd ∧ 0 ≤ sp ∧ 0 ≤ dp ∧ 0 ≤ n ∧ sp + n ≤ hl S a ∧ dp + n ≤ hl S d ∧ S' = wC S a d sp.toNat dp.toNat n.toNat := by
  cases src with
  | none => simp [cpy] at h
  | some a =>
    cases dst with
    | none => simp [cpy] at h
    | some d =>
      simp only [cpy] at h
      split at h
      · rename_i q
        exact ⟨a, d, rfl, rfl, q.1, q.2.1, q.2.2.1, q.2.2.2.1, q.2.2.2.2.1, q.2.2.2.2.2.1, q.2.2.2.2.2.2, (Option.some.inj h).symm⟩
      · cases h
def wK (S : AS) (a : Nat) : AS := (hn S + 1, hu S + hl S a, (fun b => if b = hn S then 8 else hk S b), (fun b => if b = hn S then hl S a else hl S b), (fun b j => if b = hn S then hI S a j else hI S b j), (fun b j => if b = hn S then none else hR S b j))
theorem hn_wK (S : AS) (a : Nat) : hn (wK S a) = hn S + 1 := rfl
theorem hu_wK (S : AS) (a : Nat) : hu (wK S a) = hu S + hl S a := rfl
theorem hk_wK (S : AS) (a b : Nat) : hk (wK S a) b = if b = hn S then 8 else hk S b := rfl
theorem hl_wK (S : AS) (a b : Nat) : hl (wK S a) b = if b = hn S then hl S a else hl S b := rfl
theorem hI_wK (S : AS) (a b j : Nat) : hI (wK S a) b j = if b = hn S then hI S a j else hI S b j := rfl
theorem hR_wK (S : AS) (a b j : Nat) : hR (wK S a) b j = if b = hn S then none else hR S b j := rfl
def kln (S : AS) (r : Option Nat) : Option AS := match r with
  | some a => if hk S a = 8 ∧ hn S < CM ∧ hu S + hl S a ≤ UM then some (wK S a) else none
  | none => none
theorem kln_some {S S' : AS} {r : Option Nat} (h : kln S r = some S') : ∃ a, r = some a ∧ hk S a = 8 ∧ hn S < CM ∧ hu S + hl S a ≤ UM ∧ S' = wK S a := by
  cases r with
  | none => simp [kln] at h
  | some a =>
    simp only [kln] at h
    split at h
    · rename_i q
      exact ⟨a, rfl, q.1, q.2.1, q.2.2, (Option.some.inj h).symm⟩
    · cases h
theorem hp_R.cloned {b : Nat} {D : va_G} {dA : Nat → ClassId} {S : AS} {H H' : Heap} (h : hp_R b D dA S H) {a : Nat} (ha : hk S a = 8) (e : H'[H.size]? = some (arrV (dA 8) (hl S a) (fun j => av b 8 (hI S a j) (hR S a j)))) (z : H'.size = H.size + 1) (o : ∀ q, q < H.size → H'[q]? = H[q]?) : hp_R b D dA (wK S a) H' := by
  obtain ⟨h1, h2, h3, h4, h5⟩ := h
  refine ⟨by rw [z, h1, hn_wK]; omega, ?_, fun y hy => ?_, fun y k => ?_, fun y k hy => ?_⟩
  · rw [hp_sum_push (by omega) z o e, h2, arrV_size, hu_wK]
  · rw [hk_wK] at hy
    rw [hk_wK, hl_wK, hn_wK]
    by_cases hq : y = hn S
    · subst hq
      rw [if_pos rfl, if_pos rfl, ← h1]
      refine ⟨by omega, by decide, (hp_e_arr (by decide)).mpr ?_⟩
      rw [e]
      congr 2
      funext j
      rw [hI_wK, if_pos rfl]
      rfl
    · rw [if_neg hq] at hy ⊢
      obtain ⟨q1, q2, q3⟩ := h3 y hy
      have eI : hI (wK S a) y = hI S y := by funext j; rw [hI_wK, if_neg hq]
      have eR : hR (wK S a) y = hR S y := by funext j; rw [hR_wK, if_neg hq]
      rw [if_neg hq, eI, eR]
      exact ⟨by omega, q2, q3.kept (o (b + y) (by omega))⟩
  · rw [hI_wK]
    split
    · exact h4 a k
    · exact h4 y k
  · rw [hk_wK] at hy
    rw [hI_wK]
    split
    · rename_i hq
      rw [if_pos hq] at hy
      cases hy
    · rename_i hq
      rw [if_neg hq] at hy
      exact h5 y k hy
section J
variable {p : Program} {l : Launch} {e : Env} {R : Room} {s : State} {m : MethodId} {args : Array Value} {below : List Frame} {meth : Method} {c : Code}
variable {b : Nat} {D : va_G} {dA : Nat → ClassId} {S0 S S' : AS} {Q : State → Prop} {own : String} {cc : ByteArray} {nL pc fr lo : Nat} {ls : Array Slot} {st : List Value}
theorem j_tabIn (C : hp_C p l e R s m args below meth c b D dA S0 own cc nL fr lo) {dflt lo9 hi9 : Int} {offs : Array Int} {len tgt : Nat} {off x v : Int} (d : decode cc pc = .ok (.tableswitch dflt lo9 hi9 offs, len)) (hx : inR x) (hb : x = v) (h1 : ¬ v < lo9) (h2 : ¬ hi9 < v) (ho : offs[(v - lo9).toNat]? = some off) (ht : (pc : Int) + off = (tgt : Int)) (k : hp_J p l e R s m args below meth c b D dA S0 Q S tgt ls st) : hp_J p l e R s m args below meth c b D dA S0 Q S pc ls (iv x :: st) := by
  subst hb
  have e1 := iv_toInt hx
  exact j_of (fun _ _ _ _ h => lv_tableIn C.1 C.2.1 d (by rw [e1]; exact h1) (by rw [e1]; exact h2) (by rw [e1]; exact ho) ht h) k
theorem j_tabOut (C : hp_C p l e R s m args below meth c b D dA S0 own cc nL fr lo) {dflt lo9 hi9 : Int} {offs : Array Int} {len tgt : Nat} {x : Int} (d : decode cc pc = .ok (.tableswitch dflt lo9 hi9 offs, len)) (hx : inR x) (h : x < lo9 ∨ hi9 < x) (ht : (pc : Int) + dflt = (tgt : Int)) (k : hp_J p l e R s m args below meth c b D dA S0 Q S tgt ls st) : hp_J p l e R s m args below meth c b D dA S0 Q S pc ls (iv x :: st) := by
  have e1 := iv_toInt hx
  exact j_of (fun _ _ _ _ h9 => lv_tableOut C.1 C.2.1 d (by rw [e1]; exact h) ht h9) k
theorem j_idiv (C : hp_C p l e R s m args below meth c b D dA S0 own cc nL fr lo) {x y z : Int} (d : decode cc pc = .ok (.idiv, 1)) (hx : inR x) (hy : inR y) (hz : dvI x y = some z) (k : inR z → hp_J p l e R s m args below meth c b D dA S0 Q S (pc + 1) ls (iv z :: st)) : hp_J p l e R s m args below meth c b D dA S0 Q S pc ls (iv y :: iv x :: st) := by
  unfold dvI at hz
  split at hz
  · rename_i g
    cases hz
    have h1 : 0 ≤ x / y := Int.ediv_nonneg g.1 (by omega)
    have h2 : x / y ≤ x := Int.ediv_le_self y g.1
    have hr : inR (x / y) := by omega
    have e : Int32.ofInt x / Int32.ofInt y = Int32.ofInt (x / y) := Int32.toInt_inj.mp (by
      rw [iv_toInt hr, lg_idiv_nonneg (by rw [iv_toInt hx]; exact g.1) (by rw [iv_toInt hy]; exact g.2), iv_toInt hx, iv_toInt hy])
    refine j_of (fun _ _ _ _ h => lv_idiv C.1 C.2.1 d (fun h9 => ?_) (by rw [e]; exact h)) (k hr)
    rw [iv_z] at h9
    have := (iv_inj hy (by decide)).mp h9
    omega
  · cases hz
theorem j_irem (C : hp_C p l e R s m args below meth c b D dA S0 own cc nL fr lo) {x y z : Int} (d : decode cc pc = .ok (.irem, 1)) (hx : inR x) (hy : inR y) (hz : rmI x y = some z) (k : inR z → hp_J p l e R s m args below meth c b D dA S0 Q S (pc + 1) ls (iv z :: st)) : hp_J p l e R s m args below meth c b D dA S0 Q S pc ls (iv y :: iv x :: st) := by
  unfold rmI at hz
  split at hz
  · rename_i g
    cases hz
    have h1 : 0 ≤ x % y := Int.emod_nonneg x (by omega)
    have h2 : x % y < y := Int.emod_lt_of_pos x g.2
    have hr : inR (x % y) := by omega
    have e : Int32.ofInt x - Int32.ofInt x / Int32.ofInt y * Int32.ofInt y = Int32.ofInt (x % y) := Int32.toInt_inj.mp (by
      rw [iv_toInt hr, rem_toInt, iv_toInt hx, iv_toInt hy]
      exact Int.tmod_eq_emod_of_nonneg g.1)
    refine j_of (fun _ _ _ _ h => lv_irem C.1 C.2.1 d (fun h9 => ?_) (by rw [e]; exact h)) (k hr)
    rw [iv_z] at h9
    have := (iv_inj hy (by decide)).mp h9
    omega
  · cases hz
theorem j_castA (C : hp_C p l e R s m args below meth c b D dA S0 own cc nL fr lo) {idx : Nat} {r : Option Nat} (d : decode cc pc = .ok (.checkcast idx, 3)) (w1 : Cond.classLink own idx "[I" ∈ hp_ws) (ha : isK S r 8 = true) (k : hp_J p l e R s m args below meth c b D dA S0 Q S (pc + 3) ls (rf b r :: st)) : hp_J p l e R s m args below meth c b D dA S0 Q S pc ls (rf b r :: st) := by
  obtain ⟨a, rfl, ha9⟩ := isK_some ha
  intro H locs q1 q2 q3 q4 T hT X
  obtain ⟨vm', X', stp⟩ := X.checkcastYes C.1 C.2.2.2.1 (C.2.2.2.2.1 _ w1) (by rw [hT]; exact q1.arr (by decide) ha9) rfl (hp_nmA C (Or.inl ⟨rfl, rfl⟩)) (va_asg _ _) (g := F0 m pc ls (.ref (b + a) :: st)) rfl rfl (by rw [C.2.1]; exact d)
  obtain ⟨t, a1, b1⟩ := k H locs q1 q2 q3 q4 (T.setVm vm') hT X'
  exact ⟨t, stp t a1, b1⟩
/-- an array of ints into an array of such -/
theorem j_aastA (C : hp_C p l e R s m args below meth c b D dA S0 own cc nL fr lo) {r v : Option Nat} {i : Int} (d : decode cc pc = .ok (.aastore, 1)) (hi : inR i) (hg : sR S r 12 i v = some S') (k : hp_J p l e R s m args below meth c b D dA S0 Q S' (pc + 1) ls st) : hp_J p l e R s m args below meth c b D dA S0 Q S pc ls (rf b v :: iv i :: rf b r :: st) := by
  obtain ⟨a, w, rfl, rfl, ha, h0, h1, hw, rfl⟩ := sR_some hg
  intro H locs q1 q2 q3 q4
  have hin := iv_in hi h0 h1
  have hA := hp_aro C.2.2.2.2.2.1.1
  obtain ⟨-, kA, hkA, comp, hkind⟩ := hA.2.2.2.2.1 0 (fun _ => .null)
  obtain ⟨-, kB, hkB, comp8, hkind8⟩ := hA.1 0 (fun _ => .null)
  have hover := C.2.2.2.2.2.1.2.2.2.2.1 args
  obtain ⟨c9, cA9, k9, h9a, h9b, h9c, h9d, h9e⟩ := hp_over hover
  have e12 : cA9 = dA 12 := Option.some.inj (h9e.symm.trans (hp_nmA C (Or.inr (Or.inr (Or.inr ⟨rfl, rfl⟩)))))
  subst e12
  have e8 : c9 = dA 8 := Option.some.inj (h9a.symm.trans (hp_nmA C (Or.inl ⟨rfl, rfl⟩)))
  subst e8
  refine W.aast C.1 C.2.1 (q1.arr (by decide) ha) (fun q h => by cases h) (fun h => by cases h) h9c h9d rfl hkB ⟨fun q => hin (Or.inl q), by rw [arrV_size]; exact Nat.not_le.mp fun q => hin (Or.inr q)⟩ (q1.arr (by decide) hw) (fun q h => by cases h) hkB (va_asg _ _) rfl rfl d fun H' e1 e2 e3 => ?_
  rw [iv_clamp hi] at e1
  exact j_put2 (S' := wR S a i.toNat (some w)) (by decide) ha rfl rfl rfl rfl (fun _ _ _ => rfl) (fun x j h => by rw [hR_wR, if_neg (by omega)]) (by rw [hR_wR, if_pos ⟨rfl, rfl⟩]; rfl) id (fun h => by cases h) k q1 q2 q3 q4 H' _ e1 e2 e3
theorem j_clone (C : hp_C p l e R s m args below meth c b D dA S0 own cc nL fr lo) {idx : Nat} {r : Option Nat} (d : decode cc pc = .ok (.invokevirtual idx, 3)) (w1 : Cond.methodLink own idx ⟨"[I", "clone", "()Ljava/lang/Object;"⟩ ∈ hp_ws) (hls : ls.size = nL) (hfr : 1 ≤ fr) (hlo : (st.map fun v => v.category).sum + 14 ≤ lo) (hg : kln S r = some S') (k : hp_J p l e R s m args below meth c b D dA S0 Q S' (pc + 3) ls (rf b (some (hn S)) :: st)) : hp_J p l e R s m args below meth c b D dA S0 Q S pc ls (rf b r :: st) := by
  obtain ⟨a, rfl, ha, g1, g2, rfl⟩ := kln_some hg
  intro H locs q1 q2 q3 q4 T hT X
  have hsz : H.size = b + hn S := q1.1
  have e1 : R.frames = fr := C.2.2.2.2.2.2.2.2.2.2.2.1
  have e2 : R.locals = lo := C.2.2.2.2.2.2.2.2.2.2.2.2
  have hRc := C.2.2.2.2.2.2.2.1
  have hRs := C.2.2.2.2.2.2.2.2.1
  have hts := C.2.2.2.2.1
  have q3' : hn S0 ≤ hn S ∧ hn S ≤ CM ∧ hu S0 ≤ hu S ∧ hu S ≤ UM := q3
  have hcell := q1.arr (by decide) ha
  have hnm : s.vm.findClass "[I" = some (dA 8) := hp_nmA C (Or.inl ⟨rfl, rfl⟩)
  obtain ⟨c0, t0', f1, f2, f3⟩ := Cond.castable_spec (va_Nw.use (A := args) rfl (C.2.2.2.2.2.1.2.1 (.castable "[I" "java/lang/Cloneable") (by decide +kernel)))
  cases hnm.symm.trans f1
  have hA := (hp_aro C.2.2.2.2.2.1.1).1
  obtain ⟨-, kA, hkA, comp, hkind⟩ := State.isArrayOf_alike X.warmed.alike (hA 0 (fun _ => .null))
  obtain ⟨-, kS, hkS, compS, hkindS⟩ := hA 0 (fun _ => .null)
  obtain ⟨vm', X', stp⟩ := X.cloneArray C.1 C.2.2.2.1 (hts _ w1) (hts _ kl_same) (hts _ kl_nat) (hts _ kl_inst) (hts _ kl_sel) (a := b + a) (cell := arrV (dA 8) (hl S a) (fun j => av b 8 (hI S a j) (hR S a j))) (by rw [hT]; exact hcell) (fun k h => by cases h) (fun h => by cases h) hnm f2 f3
    (fun i v hv => by
      have hk' : T.vm.classes[dA 8]? = some kA := hkA
      have hv' : (arrV (dA 8) (hl S a) (fun j => av b 8 (hI S a j) (hR S a j))).slots[i]? = some v := hv
      have hf := va_fit (ty := .int) (fun i _ => rfl) i v hv'
      have : (arrV (dA 8) (hl S a) (fun j => av b 8 (hI S a j) (hR S a j))).cls = dA 8 := rfl
      simpa [State.fitsSlot, State.slotType?, this, hk', hkind] using hf)
    (g := F0 m pc ls (.ref (b + a) :: st)) rfl (hls.trans C.2.2.1.symm) rfl (by rw [C.2.1]; exact d) (by rw [e1]; exact hfr) (by rw [e2]; show 2 * 0 + _ + 14 ≤ _; omega) (by rw [hRc]; omega) (by rw [hRs]; show _ + (arrV _ _ _).slots.size ≤ _; rw [arrV_size]; omega) (hloader := Vm.clonesLoader_of_array hkS hkindS)
  generalize hH1 : H.push (arrV (dA 8) (hl S a) (fun j => av b 8 (hI S a j) (hR S a j))) = H1
  have z1 : H1.size = H.size + 1 := by rw [← hH1, Array.size_push]
  have x1 : H1[H.size]? = some (arrV (dA 8) (hl S a) (fun j => av b 8 (hI S a j) (hR S a j))) := by rw [← hH1, Array.getElem?_push_size]
  have o1 : ∀ q : Nat, q < H.size → H1[q]? = H[q]? := fun q hq => by rw [← hH1, Array.getElem?_push, if_neg (Nat.ne_of_lt hq)]
  have w := k H1 locs (q1.cloned ha x1 z1 o1) q2 (hp_B.grow (n := 1) (u := hl S a) q3 rfl rfl (by omega) g2) (fun x hx => (o1 x (by omega)).trans (q4 x hx))
  rw [hn_wK, hu_wK, show hn S + 1 - hn S0 = hn S - hn S0 + 1 by omega, show hu S + hl S a - hu S0 = hu S - hu S0 + hl S a by omega] at w
  obtain ⟨t, a1, b1⟩ := w ((T.setVm vm').pushCell (arrV (dA 8) (hl S a) (fun j => av b 8 (hI S a j) (hR S a j)))) (by rw [← hH1, ← hT]; rfl) (by
    have := X'
    rw [show (arrV (dA 8) (hl S a) (fun j => av b 8 (hI S a j) (hR S a j))).slots.size = hl S a from arrV_size _ _ _] at this
    exact this)
  refine ⟨t, stp t ?_, b1⟩
  rw [show T.heap.size = b + hn S by rw [hT]; exact hsz]
  exact a1
theorem j_copy (C : hp_C p l e R s m args below meth c b D dA S0 own cc nL fr lo) {idx kd : Nat} {src dst : Option Nat} {sp dp n : Int} (d : decode cc pc = .ok (.invokestatic idx, 3)) (hkd : kd = 8 ∨ kd = 9) (hsp : inR sp) (hdp : inR dp) (hn9 : inR n) (w1 : Cond.methodLink own idx arraycopyName ∈ hp_ws) (w2 : Cond.native arraycopyName ∈ hp_ws) (w3 : Cond.static arraycopyName ∈ hp_ws) (w4 : Cond.initialized "java/lang/System" ∈ hp_ws) (hls : ls.size = nL) (hfr : 1 ≤ fr) (hlo : (st.map fun v => v.category).sum + 60 ≤ lo) (hg : cpy S src sp dst dp n kd = some S') (k : hp_J p l e R s m args below meth c b D dA S0 Q S' (pc + 3) ls st) : hp_J p l e R s m args below meth c b D dA S0 Q S pc ls (iv n :: iv dp :: rf b dst :: iv sp :: rf b src :: st) := by
  obtain ⟨a0, a, rfl, rfl, ha0, ha, g1, g2, g3, g4, g5, rfl⟩ := cpy_some hg
  intro H locs q1 q2 q3 q4 T hT X
  have e1 : R.frames = fr := C.2.2.2.2.2.2.2.2.2.2.2.1
  have e2 : R.locals = lo := C.2.2.2.2.2.2.2.2.2.2.2.2
  have hts := C.2.2.2.2.1
  have q3' : hn S0 ≤ hn S ∧ hn S ≤ CM ∧ hu S0 ≤ hu S ∧ hu S ≤ UM := q3
  have hc0 := q1.arr (by omega) ha0
  have hc1 := q1.arr (by omega) ha
  have hA := hp_aro C.2.2.2.2.2.1.1
  obtain ⟨ty, hty, hAr⟩ : ∃ ty : FieldType, ((kd = 8 ∧ ty = .int) ∨ (kd = 9 ∧ ty = .boolean)) ∧ ArrOfT s (dA kd) ty := by
    rcases hkd with rfl | rfl
    · exact ⟨.int, Or.inl ⟨rfl, rfl⟩, hA.1⟩
    · exact ⟨.boolean, Or.inr ⟨rfl, rfl⟩, hA.2.1⟩
  obtain ⟨-, k0, hk0, cm0, hkk0⟩ := hAr 0 (fun _ => .null)
  have ef : ∀ x j, av b kd (hI S x j) (hR S x j) = iv (hI S x j) := fun x j => by unfold av; rw [if_pos (by omega)]
  have nn : ∀ z : Int, inR z → 0 ≤ z → ¬ Int32.ofInt z < 0 := fun z hz h0 h => by
    rw [iv_z] at h
    have := (iv_lt hz (by decide)).mp h
    omega
  have c1 : (Int32.ofInt sp).toNatClampNeg = sp.toNat := iv_clamp hsp
  have c2 : (Int32.ofInt dp).toNatClampNeg = dp.toNat := iv_clamp hdp
  have c3 : (Int32.ofInt n).toNatClampNeg = n.toNat := iv_clamp hn9
  have hprim : refKind ty = false := by rcases hty with ⟨-, rfl⟩ | ⟨-, rfl⟩ <;> rfl
  obtain ⟨vm', X', stp⟩ := X.arraycopy C.1 C.2.2.2.1 (hts _ w1) (hts _ w2) (hts _ w3) (hts _ w4) (src := b + a0) (dst := b + a) (cs := arrV (dA kd) (hl S a0) (fun j => av b kd (hI S a0 j) (hR S a0 j))) (cd := arrV (dA kd) (hl S a) (fun j => av b kd (hI S a j) (hR S a j))) (srcPos := Int32.ofInt sp) (destPos := Int32.ofInt dp) (n := Int32.ofInt n) (by rw [hT]; exact hc0) (by rw [hT]; exact hc1)
    (fun _ h => by cases h) (fun _ h => by cases h) (fun h => by cases h) (fun h => by cases h) hk0 hk0 hkk0 hkk0 (by simp [hprim]) (nn sp hsp g1) (nn dp hdp g2) (nn n hn9 g3)
    (by rw [iv_toInt hsp, iv_toInt hn9, arrV_size]; omega)
    (by rw [iv_toInt hdp, iv_toInt hn9, arrV_size]; omega)
    (fun vm₁ _ i hi => by
      rw [c3] at hi
      have e : (arrV (dA kd) (hl S a0) (fun j => av b kd (hI S a0 j) (hR S a0 j))).slots.getD ((Int32.ofInt sp).toNatClampNeg + i) .null = iv (hI S a0 (sp.toNat + i)) := by
        rw [c1, Array.getD_eq_getD_getElem?, arrV_read _ _ (by omega), ← ef]
        rfl
      refine ⟨?_, ?_⟩
      · rw [e]
        rcases hty with ⟨rfl, rfl⟩ | ⟨rfl, rfl⟩
        · rfl
        · rcases q1.2.2.2.2 a0 (sp.toNat + i) ha0 with h | h <;> rw [h] <;> decide
      · rw [e]
        exact trivial)
    (g := F0 m pc ls (iv n :: iv dp :: .ref (b + a) :: iv sp :: .ref (b + a0) :: st)) rfl (hls.trans C.2.2.1.symm) (rest := st) rfl (by rw [C.2.1]; exact d) (by rw [e1]; exact hfr) (by
      rw [e2]
      have : nativeFrameWords "java/lang/System" "arraycopy" 5 + 11 ≤ 60 := by decide +kernel
      show 2 * 0 + _ + _ ≤ _
      omega)
  have e9 : copied (arrV (dA kd) (hl S a0) (fun j => av b kd (hI S a0 j) (hR S a0 j))) (arrV (dA kd) (hl S a) (fun j => av b kd (hI S a j) (hR S a j))) (Int32.ofInt sp) (Int32.ofInt dp) (Int32.ofInt n) = arrV (dA kd) (hl S a) (fun j => av b kd (hI (wC S a0 a sp.toNat dp.toNat n.toNat) a j) (hR (wC S a0 a sp.toNat dp.toNat n.toNat) a j)) := by
    have h9 := va_copied (fun z : Value => z) (dA kd) (dA kd) (n0 := hl S a0) (n1 := hl S a) (sp := sp.toNat) (dp := dp.toNat) (n := n.toNat) (fun j => av b kd (hI S a0 j) (hR S a0 j)) (fun j => av b kd (hI S a j) (hR S a j)) (by omega)
    unfold copied
    rw [c1, c2, c3]
    refine h9.trans ?_
    congr 1
    funext j
    unfold va_cpy
    simp only [ef]
    rw [hI_wC, hR_wC]
    unfold av
    rw [if_pos (show kd ≤ 9 by omega)]
    by_cases hj : dp.toNat ≤ j ∧ j < dp.toNat + n.toNat
    · rw [if_pos hj, if_pos ⟨rfl, hj⟩]
    · rw [if_neg hj, if_neg (fun q => hj q.2)]
  rw [e9] at X' stp
  have hlt : b + a < H.size := (Array.getElem?_eq_some_iff.mp hc1).1
  generalize hN : arrV (dA kd) (hl S a) (fun j => av b kd (hI (wC S a0 a sp.toNat dp.toNat n.toNat) a j) (hR (wC S a0 a sp.toNat dp.toNat n.toNat) a j)) = N at X' stp
  have oq : ∀ q : Nat, q ≠ b + a → (H.setIfInBounds (b + a) N)[q]? = H[q]? := fun q hq => by simp [Array.getElem?_setIfInBounds, Ne.symm hq]
  have eq : (H.setIfInBounds (b + a) N)[b + a]? = some N := by simp [Array.getElem?_setIfInBounds, hlt]
  have hR : hp_R b D dA (wC S a0 a sp.toNat dp.toNat n.toNat) (H.setIfInBounds (b + a) N) := by
    refine q1.upd a rfl rfl rfl rfl (fun x hx => funext fun j => ?_) (fun _ _ => rfl) ?_ (by simp) oq ?_ (fun j => ?_) (fun hz j => ?_)
    · rw [hI_wC, if_neg (fun q => hx q.1)]
    · rw [ha]
      exact (hp_e_arr (by omega)).mpr (by rw [eq, hN])
    · rw [eq, hc1, ← hN]
      simp [arrV_size]
    · rw [hI_wC]
      split
      · exact q1.2.2.2.1 _ _
      · exact q1.2.2.2.1 _ _
    · rw [hI_wC]
      split
      · exact q1.2.2.2.2 _ _ (by omega)
      · exact q1.2.2.2.2 _ _ hz
  have w := fun (L : List Loc) (hL : ∀ z ∈ L, b ≤ z.base) => k (H.setIfInBounds (b + a) N) (locs ++ L) hR (fun z hz => (List.mem_append.mp hz).elim (q2 z) (hL z)) q3 (fun x hx => (oq x (by omega)).trans (q4 x hx))
  obtain ⟨t, a1, b1⟩ := w _ (fun z hz => by
    obtain ⟨z9, -, hz9⟩ := List.mem_map.mp hz
    rw [← hz9]
    exact Nat.le_add_right _ _) ((T.setVm vm').setCell (b + a) N) (by rw [← hT]; rfl) X'
  exact ⟨t, stp t a1, b1⟩
end J
