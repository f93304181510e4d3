theorem av_def {b kd : Nat} {ty : FieldType} (h : (kd = 8 ∧ ty = .int) ∨ (kd = 9 ∧ ty = .boolean) ∨ (kd = 13 ∧ ty = .long) ∨ (10 ≤ kd ∧ kd ≤ 12 ∧ isRt ty = true)) : defaultValue ty = av b kd 0 none := by
  rcases h with ⟨rfl, rfl⟩ | ⟨rfl, rfl⟩ | ⟨rfl, rfl⟩ | ⟨h1, h2, h3⟩
  · rfl
  · rfl
  · rfl
  · unfold av
    rw [if_neg (by omega), if_pos h2]
    cases ty <;> first | rfl | cases h3
section J
variable {p : Program} {l : Launch} {e : Env} {R : Room} {s : State} {m : MethodId} {args : Array Value} {below : List Frame} {meth : Method} {c : Code}
variable {b : Nat} {D : va_G} {dA : Nat → ClassId} {S0 S S' : AS} {Q : State → Prop} {own : String} {cc : ByteArray} {nL pc fr lo : Nat} {ls : Array Slot} {st : List Value}
/-- the walk behind a new array -/
theorem j_grown {kd len : Nat} (hkd : 8 ≤ kd) (hk13 : kd ≤ 13) {ty : FieldType} (hd : defaultValue ty = av b kd 0 none) (g1 : hn S < CM) (g2 : hu S + len ≤ UM) {pc' : Nat} {st' : List Value} (k : hp_J p l e R s m args below meth c b D dA S0 Q (wN S kd len len) pc' ls st') {H : Heap} {locs : List Loc} (q1 : hp_R b D dA S H) (q2 : ∀ z ∈ locs, b ≤ z.base) (q3 : hp_B S0 S) (q4 : ∀ x, x < b → H[x]? = s.heap[x]?) (H' : Heap)
    (e1 : H'[H.size]? = some (arrV (dA kd) len (fun _ => defaultValue ty))) (z1 : H'.size = H.size + 1) (o1 : ∀ q, q < H.size → H'[q]? = H[q]?) : W p l e R s m args below meth c H' locs (hn S - hn S0 + 1) (hu S - hu S0 + len) Q (F0 m pc' ls st') := by
  have hsz : H.size = b + hn S := q1.1
  have q3' : hn S0 ≤ hn S ∧ hn S ≤ CM ∧ hu S0 ≤ hu S ∧ hu S ≤ UM := q3
  have hR := q1.new (kd := kd) (len := len) (sl := len) hk13 ((hp_e_arr hkd).mpr (by rw [e1, hd])) z1 o1 e1 (arrV_size _ _ _)
  have w := k H' locs hR q2 (hp_B.grow (n := 1) (u := len) q3 rfl rfl (by omega) g2) (fun x hx => (o1 x (by omega)).trans (q4 x hx))
  rw [hn_wN, hu_wN] at w
  rw [show hn S - hn S0 + 1 = hn S + 1 - hn S0 by omega, show hu S - hu S0 + len = hu S + len - hu S0 by omega]
  exact w
theorem hp_nmA (C : hp_C p l e R s m args below meth c b D dA S0 own cc nL fr lo) {kd : Nat} {ty : FieldType} (h : (kd = 8 ∧ ty = .int) ∨ (kd = 9 ∧ ty = .boolean) ∨ (kd = 13 ∧ ty = .long) ∨ (kd = 12 ∧ ty = .array .int)) : s.vm.findClass ("[" ++ ty.toString) = some (dA kd) := by
  have hK := C.2.2.2.2.2.1.1.2
  rcases h with ⟨rfl, rfl⟩ | ⟨rfl, rfl⟩ | ⟨rfl, rfl⟩ | ⟨rfl, rfl⟩
  · exact (hK 0 _ rfl).2
  · exact (hK 1 _ rfl).2
  · exact (hK 5 _ rfl).2
  · exact (hK 4 _ rfl).2
theorem j_newa (C : hp_C p l e R s m args below meth c b D dA S0 own cc nL fr lo) {at9 : ArrayType} {kd : Nat} {n : Int} (d : decode cc pc = .ok (.newarray at9, 2)) (hkd : (kd = 8 ∧ newarray.typeOf at9 = .int) ∨ (kd = 9 ∧ newarray.typeOf at9 = .boolean) ∨ (kd = 13 ∧ newarray.typeOf at9 = .long)) (hw : Cond.arrayClass (newarray.typeOf at9) ∈ hp_ws) (hn9 : inR n) (hg : nA S kd n = some S') (k : hp_J p l e R s m args below meth c b D dA S0 Q S' (pc + 2) ls (rf b (some (hn S)) :: st)) : hp_J p l e R s m args below meth c b D dA S0 Q S pc ls (iv n :: st) := by
  obtain ⟨g0, g1, g2, g3, rfl⟩ := nA_some hg
  intro H locs q1 q2 q3 q4
  have hsz : H.size = b + hn S := q1.1
  have hRc := C.2.2.2.2.2.2.2.1
  have hRs := C.2.2.2.2.2.2.2.2.1
  have q3' : hn S0 ≤ hn S ∧ hn S ≤ CM ∧ hu S0 ≤ hu S ∧ hu S ≤ UM := q3
  have hcb : componentBytes (newarray.typeOf at9) ≤ 8 := by cases at9 <;> decide
  have hcm : n.toNat * componentBytes (newarray.typeOf at9) ≤ n.toNat * 8 := Nat.mul_le_mul_left _ hcb
  refine va_newaK C.1 C.2.1 (C.2.2.2.2.1 _ hw) rfl d rfl (fun h => by
    rw [iv_z] at h
    have := (iv_lt hn9 (by decide)).mp h
    omega) (iv_clamp hn9) (by omega) (by rw [hRc]; omega) (by rw [hRs]; omega) hsz fun H' cA e1 z1 o1 hAr hNm => ?_
  have hcA : cA = dA kd := Option.some.inj (hNm.symm.trans (hp_nmA C (by
    rcases hkd with h | h | h
    · exact Or.inl h
    · exact Or.inr (Or.inl h)
    · exact Or.inr (Or.inr (Or.inl h)))))
  subst hcA
  rw [← hsz] at e1 z1 o1
  exact j_grown (by omega) (by omega) (av_def (by
    rcases hkd with h | h | h
    · exact Or.inl h
    · exact Or.inr (Or.inl h)
    · exact Or.inr (Or.inr (Or.inl h)))) g2 g3 k q1 q2 q3 q4 H' e1 z1 o1
theorem j_anew (C : hp_C p l e R s m args below meth c b D dA S0 own cc nL fr lo) {idx kd ci : Nat} {n : Int} (d : decode cc pc = .ok (.anewarray idx, 3)) (hkd : (kd = 10 ∧ ci = 3) ∨ (kd = 11 ∧ ci = 4)) (hw : Cond.classLink own idx (RC ci) ∈ hp_ws) (hn9 : inR n) (hg : nA S kd n = some S') (k : hp_J p l e R s m args below meth c b D dA S0 Q S' (pc + 3) ls (rf b (some (hn S)) :: st)) : hp_J p l e R s m args below meth c b D dA S0 Q S pc ls (iv n :: st) := by
  obtain ⟨g0, g1, g2, g3, rfl⟩ := nA_some hg
  intro H locs q1 q2 q3 q4
  have hsz : H.size = b + hn S := q1.1
  have hRc := C.2.2.2.2.2.2.2.1
  have hRs := C.2.2.2.2.2.2.2.2.1
  have q3' : hn S0 ≤ hn S ∧ hn S ≤ CM ∧ hu S0 ≤ hu S ∧ hu S ≤ UM := q3
  have hover : (Cond.arrayOver (.object (RC ci))).before args s = true := by
    rcases hkd with ⟨-, rfl⟩ | ⟨-, rfl⟩
    · exact va_AO.use C.2.2.2.2.2.1.2.2.1
    · exact va_AO.use C.2.2.2.2.2.1.2.2.2.1
  have hN : (Int32.ofInt n).toNatClampNeg = n.toNat := iv_clamp hn9
  refine W.anew C.1 C.2.1 C.2.2.2.1 (C.2.2.2.2.1 _ hw) hover rfl d rfl (fun h => by
    rw [iv_z] at h
    have := (iv_lt hn9 (by decide)).mp h
    omega) (by rw [hN]; omega) (by rw [hRc]; omega) (by rw [hRs, hN]; omega) fun cA kA comp f1 f2 f3 f4 => ?_
  rw [hN]
  have hcA : cA = dA kd := by
    have hK := C.2.2.2.2.2.1.1.2
    rcases hkd with ⟨rfl, rfl⟩ | ⟨rfl, rfl⟩
    · obtain ⟨_, _, -, -, -, h9⟩ := (hK 2 _ rfl).2
      exact Option.some.inj (f1.symm.trans h9)
    · obtain ⟨_, _, -, -, -, h9⟩ := (hK 3 _ rfl).2
      exact Option.some.inj (f1.symm.trans h9)
  subst hcA
  generalize hH1 : H.push ({ cls := dA kd, slots := Array.replicate n.toNat .null, vm := .none } : Cell) = H1
  have z1 : H1.size = H.size + 1 := by rw [← hH1, Array.size_push]
  have e1 : H1[H.size]? = some (arrV (dA kd) n.toNat (fun _ => .null)) := by rw [← hH1, Array.getElem?_push_size, ← arrV_new]
  have o1 : ∀ q : Nat, q < H.size → H1[q]? = H[q]? := fun q hq => by rw [← hH1, Array.getElem?_push, if_neg (Nat.ne_of_lt hq)]
  rw [hsz]
  exact j_grown (ty := .object "x") (by omega) (by omega) (av_def (Or.inr (Or.inr (Or.inr ⟨by omega, by omega, rfl⟩)))) g2 g3 k q1 q2 q3 q4 H1 e1 z1 o1
theorem j_anewA (C : hp_C p l e R s m args below meth c b D dA S0 own cc nL fr lo) {idx : Nat} {n : Int} (d : decode cc pc = .ok (.anewarray idx, 3)) (hw : Cond.classLink own idx "[I" ∈ hp_ws) (hn9 : inR n) (hg : nA S 12 n = some S') (k : hp_J p l e R s m args below meth c b D dA S0 Q S' (pc + 3) ls (rf b (some (hn S)) :: st)) : hp_J p l e R s m args below meth c b D dA S0 Q S pc ls (iv n :: st) := by
  obtain ⟨g0, g1, g2, g3, rfl⟩ := nA_some hg
  intro H locs q1 q2 q3 q4
  have hsz : H.size = b + hn S := q1.1
  have hRc := C.2.2.2.2.2.2.2.1
  have hRs := C.2.2.2.2.2.2.2.2.1
  have q3' : hn S0 ≤ hn S ∧ hn S ≤ CM ∧ hu S0 ≤ hu S ∧ hu S ≤ UM := q3
  have hN : (Int32.ofInt n).toNatClampNeg = n.toNat := iv_clamp hn9
  refine W.anewA (t := .int) C.1 C.2.1 C.2.2.2.1 (C.2.2.2.2.1 _ hw) (C.2.2.2.2.2.1.2.2.2.2.1 args) rfl d rfl (fun h => by
    rw [iv_z] at h
    have := (iv_lt hn9 (by decide)).mp h
    omega) (by rw [hN]; omega) (by rw [hRc]; omega) (by rw [hRs, hN]; omega) fun cA kA comp f1 f2 f3 f4 => ?_
  rw [hN]
  have hcA : cA = dA 12 := Option.some.inj (f1.symm.trans (hp_nmA C (Or.inr (Or.inr (Or.inr ⟨rfl, rfl⟩)))))
  subst hcA
  generalize hH1 : H.push ({ cls := dA 12, slots := Array.replicate n.toNat .null, vm := .none } : Cell) = H1
  have z1 : H1.size = H.size + 1 := by rw [← hH1, Array.size_push]
  have e1 : H1[H.size]? = some (arrV (dA 12) n.toNat (fun _ => .null)) := by rw [← hH1, Array.getElem?_push_size, ← arrV_new]
  have o1 : ∀ q : Nat, q < H.size → H1[q]? = H[q]? := fun q hq => by rw [← hH1, Array.getElem?_push, if_neg (Nat.ne_of_lt hq)]
  rw [hsz]
  exact j_grown (ty := .object "x") (by omega) (by omega) (av_def (Or.inr (Or.inr (Or.inr ⟨by omega, by omega, rfl⟩)))) g2 g3 k q1 q2 q3 q4 H1 e1 z1 o1
/-- a reference into an array of objects -/
theorem j_aast (C : hp_C p l e R s m args below meth c b D dA S0 own cc nL fr lo) {kd : Nat} {r v : Option Nat} {i : Int} (d : decode cc pc = .ok (.aastore, 1)) (hkd : kd = 10 ∨ kd = 11) (hi : inR i) (hg : sR S r kd i v = some S') (k : hp_J p l e R s m args below meth c b D dA S0 Q S' (pc + 1) ls st) : hp_J p l e R s m args below meth c b D dA S0 Q S pc ls (rf b v :: iv i :: rf b r :: st) := by
  obtain ⟨a, w, rfl, rfl, ha, h0, h1, hw, rfl⟩ := sR_some hg
  intro H locs q1 q2 q3 q4
  have hin := iv_in hi h0 h1
  have hK := C.2.2.2.2.2.1.1
  have go : ∀ ci t0 : Nat, ci < 7 → hk S w = ci + 1 → (hp_ty dA)[t0]? = some (dA kd, .object (RC ci)) → W p l e R s m args below meth c H locs (hn S - hn S0) (hu S - hu S0) Q (F0 m pc ls (rf b (some w) :: iv i :: rf b (some a) :: st)) := by
    intro ci t0 hci hwk ht
    obtain ⟨cellV, g1, g2, g3, -⟩ := q1.obj hci hwk
    have hcls := (hK.1 ci _ (vwC hci)).2
    obtain ⟨kA, comp, k1, k2, k3, -⟩ := (hK.2 t0 _ ht).2
    have hcomp : comp = D.1 ci := Option.some.inj (k3.symm.trans hcls.1)
    subst hcomp
    obtain ⟨kC, hkC, -⟩ := hcls.2
    refine W.aast C.1 C.2.1 (q1.arr (by omega) ha) (fun q h => by cases h) (fun h => by cases h) k1 k2 rfl hkC ⟨fun q => hin (Or.inl q), by rw [arrV_size]; exact Nat.not_le.mp fun q => hin (Or.inr q)⟩ g1 (fun q h => by rw [g3] at h; cases h) (by rw [g2]; exact hkC) (by rw [g2]; exact va_asg _ _) rfl rfl d fun H' e1 e2 e3 => ?_
    rw [iv_clamp hi] at e1
    exact j_put2 (S' := wR S a i.toNat (some w)) (by omega) ha rfl rfl rfl rfl (fun _ _ _ => rfl) (fun x j h => by rw [hR_wR, if_neg (by omega)]) (by
      rw [hR_wR, if_pos ⟨rfl, rfl⟩]
      unfold av
      rw [if_neg (by omega), if_pos (by omega)]
      rfl) id (fun h => by omega) k q1 q2 q3 q4 H' _ e1 e2 e3
  rcases hkd with rfl | rfl
  · exact go 3 2 (by decide) hw rfl
  · exact go 4 3 (by decide) hw rfl
end J
