def av (b kd : Nat) (i : Int) (r : Option Nat) : Value := if kd ≤ 9 then iv i else if kd ≤ 12 then rf b r else lvv i
theorem hp_e_arr {D : va_G} {b : Nat} {dA : Nat → ClassId} {kd len x : Nat} {I : Nat → Int} {Rf : Nat → Option Nat} {H : Heap} (h : 8 ≤ kd) : va_at D vwCl (x, hp_e b dA kd len I Rf) H ↔ H[x]? = some (arrV (dA kd) len (fun j => av b kd (I j) (Rf j))) := by
  unfold va_at hp_e av
  by_cases h2 : kd ≤ 9
  · simp only [if_neg (show ¬ kd ≤ 7 by omega), if_pos h2]
    exact Iff.rfl
  · by_cases h3 : kd ≤ 12
    · simp only [if_neg (show ¬ kd ≤ 7 by omega), if_neg h2, if_pos h3]
      exact Iff.rfl
    · simp only [if_neg (show ¬ kd ≤ 7 by omega), if_neg h2, if_neg h3]
      exact Iff.rfl
theorem hp_R.arr {b : Nat} {D : va_G} {dA : Nat → ClassId} {S : AS} {H : Heap} (h : hp_R b D dA S H) {a kd : Nat} (hk8 : 8 ≤ kd) (ha : hk S a = kd) : H[b + a]? = some (arrV (dA kd) (hl S a) (fun j => av b kd (hI S a j) (hR S a j))) := by
  obtain ⟨-, -, h3, -, -⟩ := h
  obtain ⟨-, -, q⟩ := h3 a (by omega)
  rw [ha] at q
  exact (hp_e_arr hk8).mp q
theorem mem_le_sum {x : Nat} {l : List Nat} (h : x ∈ l) : x ≤ l.sum := by
  induction l with
  | nil => cases h
  | cons y t ih =>
    rw [List.sum_cons]
    rcases List.mem_cons.mp h with rfl | h
    · omega
    · have := ih h
      omega
theorem hp_R.len {b : Nat} {D : va_G} {dA : Nat → ClassId} {S : AS} {H : Heap} (h : hp_R b D dA S H) {a kd : Nat} (hk8 : 8 ≤ kd) (ha : hk S a = kd) : hl S a ≤ hu S := by
  have h1 := h.arr hk8 ha
  have h2 : (H.toList.drop b)[a]? = some (arrV (dA kd) (hl S a) (fun j => av b kd (hI S a j) (hR S a j))) := by
    rw [List.getElem?_drop, Array.getElem?_toList]; exact h1
  have h3 : hl S a ∈ (H.toList.drop b).map (·.slots.size) := List.mem_map.mpr ⟨_, List.mem_of_getElem? h2, arrV_size _ _ _⟩
  have h4 := mem_le_sum h3
  have h5 := h.2.1
  unfold hp_sum at h5
  omega
theorem hp_R.putA {b : Nat} {D : va_G} {dA : Nat → ClassId} {S S' : AS} {H H' : Heap} (h : hp_R b D dA S H) {a kd k : Nat} (hk8 : 8 ≤ kd) (ha : hk S a = kd) {v : Value}
    (en : hn S' = hn S) (eu : hu S' = hu S) (ek : hk S' = hk S) (el : hl S' = hl S) (eI : ∀ x j, (x ≠ a ∨ j ≠ k) → hI S' x j = hI S x j) (eR : ∀ x j, (x ≠ a ∨ j ≠ k) → hR S' x j = hR S x j) (hv : v = av b kd (hI S' a k) (hR S' a k)) (hr : inR (hI S' a k)) (hz9 : kd = 9 → hI S' a k = 0 ∨ hI S' a k = 1)
    (e1 : H'[b + a]? = some ((arrV (dA kd) (hl S a) (fun j => av b kd (hI S a j) (hR S a j))).setSlot k v)) (z : H'.size = H.size) (o : ∀ q, q ≠ b + a → H'[q]? = H[q]?) : hp_R b D dA S' H' := by
  refine h.upd a en eu ek el (fun x hx => funext fun j => eI x j (Or.inl hx)) (fun x hx => funext fun j => eR x j (Or.inl hx)) ?_ z o ?_ ?_ ?_
  · rw [ha]
    refine (hp_e_arr hk8).mpr ?_
    rw [e1, arrV_store]
    congr 2
    funext j
    unfold updV
    by_cases hjk : j = k
    · subst hjk
      rw [if_pos rfl, hv]
    · rw [if_neg hjk, eI a j (Or.inr hjk), eR a j (Or.inr hjk)]
  · rw [e1, h.arr hk8 ha]
    simp [k2_slotsz]
  · intro j
    by_cases hjk : j = k
    · subst hjk; exact hr
    · rw [eI a j (Or.inr hjk)]; exact h.2.2.2.1 a j
  · intro hz j
    by_cases hjk : j = k
    · subst hjk; exact hz9 (by omega)
    · rw [eI a j (Or.inr hjk)]; exact h.2.2.2.2 a j hz
theorem hp_aro {D : va_G} {dA : Nat → ClassId} {U : State} (h : va_K D vwCl (hp_ty dA) U) : ArrOfT U (dA 8) .int ∧ ArrOfT U (dA 9) .boolean ∧ ArrOfT U (dA 10) (.object RX3) ∧ ArrOfT U (dA 11) (.object RX4) ∧ ArrOfT U (dA 12) (.array .int) ∧ ArrOfT U (dA 13) .long :=
  ⟨(h.2 0 _ rfl).1, (h.2 1 _ rfl).1, (h.2 2 _ rfl).1, (h.2 3 _ rfl).1, (h.2 4 _ rfl).1, (h.2 5 _ rfl).1⟩
def kdT (ty : FieldType) : Bool := match ty with
  | .int => true
  | .boolean => true
  | ty => isRt ty
theorem kdC {ci : Nat} (h : ci < 7) : ∀ k, k < NC ci → kdT (tyC ci k) = true := by
  match ci, h with
  | 0, _ => exact (by decide +kernel : ∀ k, k < 5 → kdT (tyX0 k) = true)
  | 1, _ => exact (by decide +kernel : ∀ k, k < 7 → kdT (tyX1 k) = true)
  | 2, _ => exact (by decide +kernel : ∀ k, k < 3 → kdT (tyX2 k) = true)
  | 3, _ => exact (by decide +kernel : ∀ k, k < 3 → kdT (tyX3 k) = true)
  | 4, _ => exact (by decide +kernel : ∀ k, k < 7 → kdT (tyX4 k) = true)
  | 5, _ => exact (by decide +kernel : ∀ k, k < 7 → kdT (tyX5 k) = true)
  | 6, _ => exact (by decide +kernel : ∀ k, k < 28 → kdT (tyX6 k) = true)
theorem fv_def {b : Nat} {ty : FieldType} (h : kdT ty = true) : defaultValue ty = fv b ty 0 none := by
  cases ty <;> first | rfl | cases h
section J
variable {p : Program} {l : Launch} {e : Env} {R : Room} {s : State} {m : MethodId} {args : Array Value} {below : List Frame} {meth : Method} {c : Code}
variable {b : Nat} {D : va_G} {dA : Nat → ClassId} {S0 S S' : AS} {Q : State → Prop} {own : String} {cc : ByteArray} {nL pc fr lo : Nat} {ls : Array Slot} {st : List Value}
theorem j_iald (C : hp_C p l e R s m args below meth c b D dA S0 own cc nL fr lo) {r : Option Nat} {i v : Int} (d : decode cc pc = .ok (.iaload, 1)) (hi : inR i) (hg : aI S r 8 i = some v) (k : inR v → hp_J p l e R s m args below meth c b D dA S0 Q S (pc + 1) ls (iv v :: st)) : hp_J p l e R s m args below meth c b D dA S0 Q S pc ls (iv i :: rf b r :: st) := by
  obtain ⟨a, rfl, ha, h0, h1, rfl⟩ := aI_some hg
  intro H locs q1 q2 q3 q4
  have hin := iv_in hi h0 h1
  exact W.iald C.1 C.2.1 (q1.arr (by decide) ha) ((hp_aro C.2.2.2.2.2.1.1).1 _ _) (fun q => by cases q) (by rw [arrV_size]; exact hin) (by rw [iv_clamp hi, arrV_read _ _ (by omega)]; rfl) rfl rfl d (k (q1.2.2.2.1 _ _) H locs q1 q2 q3 q4)
theorem j_zald (C : hp_C p l e R s m args below meth c b D dA S0 own cc nL fr lo) {r : Option Nat} {i v : Int} (d : decode cc pc = .ok (.baload, 1)) (hi : inR i) (hg : aI S r 9 i = some v) (k : inR v → hp_J p l e R s m args below meth c b D dA S0 Q S (pc + 1) ls (iv v :: st)) : hp_J p l e R s m args below meth c b D dA S0 Q S pc ls (iv i :: rf b r :: st) := by
  obtain ⟨a, rfl, ha, h0, h1, rfl⟩ := aI_some hg
  intro H locs q1 q2 q3 q4
  have hin := iv_in hi h0 h1
  exact W.zald C.1 C.2.1 (q1.arr (by decide) ha) ((hp_aro C.2.2.2.2.2.1.1).2.1 _ _) (fun q => by cases q) (by rw [arrV_size]; exact hin) (by rw [iv_clamp hi, arrV_read _ _ (by omega)]; rfl) rfl rfl d (k (q1.2.2.2.1 _ _) H locs q1 q2 q3 q4)
theorem j_aald (C : hp_C p l e R s m args below meth c b D dA S0 own cc nL fr lo) {kd : Nat} {r v : Option Nat} {i : Int} (d : decode cc pc = .ok (.aaload, 1)) (hkd : kd = 10 ∨ kd = 11 ∨ kd = 12) (hi : inR i) (hg : aR S r kd i = some v) (k : hp_J p l e R s m args below meth c b D dA S0 Q S (pc + 1) ls (rf b v :: st)) : hp_J p l e R s m args below meth c b D dA S0 Q S pc ls (iv i :: rf b r :: st) := by
  obtain ⟨a, rfl, ha, h0, h1, rfl⟩ := aR_some hg
  intro H locs q1 q2 q3 q4
  have hin := iv_in hi h0 h1
  have hA := hp_aro C.2.2.2.2.2.1.1
  rcases hkd with rfl | rfl | rfl
  · exact W.aald (ty := .object RX3) C.1 C.2.1 (q1.arr (by decide) ha) (hA.2.2.1 _ _) rfl (fun q => by cases q) (by rw [arrV_size]; exact hin) (by rw [iv_clamp hi, arrV_read _ _ (by omega)]; rfl) rfl rfl d (k H locs q1 q2 q3 q4)
  · exact W.aald (ty := .object RX4) C.1 C.2.1 (q1.arr (by decide) ha) (hA.2.2.2.1 _ _) rfl (fun q => by cases q) (by rw [arrV_size]; exact hin) (by rw [iv_clamp hi, arrV_read _ _ (by omega)]; rfl) rfl rfl d (k H locs q1 q2 q3 q4)
  · exact W.aald (ty := .array .int) C.1 C.2.1 (q1.arr (by decide) ha) (hA.2.2.2.2.1 _ _) rfl (fun q => by cases q) (by rw [arrV_size]; exact hin) (by rw [iv_clamp hi, arrV_read _ _ (by omega)]; rfl) rfl rfl d (k H locs q1 q2 q3 q4)
theorem j_alen (C : hp_C p l e R s m args below meth c b D dA S0 own cc nL fr lo) {kd : Nat} {r : Option Nat} {v : Int} (d : decode cc pc = .ok (.arraylength, 1)) (hkd : kd = 8 ∨ kd = 9) (hg : ln S r kd = some v) (k : inR v → hp_J p l e R s m args below meth c b D dA S0 Q S (pc + 1) ls (iv v :: st)) : hp_J p l e R s m args below meth c b D dA S0 Q S pc ls (rf b r :: st) := by
  obtain ⟨a, rfl, ha, rfl⟩ := ln_some hg
  intro H locs q1 q2 q3 q4
  have hlen := q1.len (by omega) ha
  have hu9 := q3.2.2.2
  have hr : inR (hl S a : Int) := by unfold UM at hu9; omega
  have hA := hp_aro C.2.2.2.2.2.1.1
  rcases hkd with rfl | rfl
  · exact W.alen (ty := .int) C.1 C.2.1 (q1.arr (by decide) ha) (hA.1 _ _) (by rw [arrV_size]; rfl) rfl rfl d (k hr H locs q1 q2 q3 q4)
  · exact W.alen (ty := .boolean) C.1 C.2.1 (q1.arr (by decide) ha) (hA.2.1 _ _) (by rw [arrV_size]; rfl) rfl rfl d (k hr H locs q1 q2 q3 q4)
/-- the walk behind a store into an array -/
theorem j_put2 {kd a k9 : Nat} {v : Value} (hk8 : 8 ≤ kd) (ha : hk S a = kd) (en : hn S' = hn S) (eu : hu S' = hu S) (ek : hk S' = hk S) (el : hl S' = hl S) (eI : ∀ x j, (x ≠ a ∨ j ≠ k9) → hI S' x j = hI S x j) (eR : ∀ x j, (x ≠ a ∨ j ≠ k9) → hR S' x j = hR S x j) (hv : v = av b kd (hI S' a k9) (hR S' a k9)) (hr : inR (hI S a k9) → inR (hI S' a k9)) (hz9 : kd = 9 → hI S' a k9 = 0 ∨ hI S' a k9 = 1)
    (k : hp_J p l e R s m args below meth c b D dA S0 Q S' pc ls st) {H : Heap} {locs : List Loc} (h1 : hp_R b D dA S H) (h2 : ∀ z ∈ locs, b ≤ z.base) (h3 : hp_B S0 S) (h4 : ∀ x, x < b → H[x]? = s.heap[x]?) (H' : Heap) (i9 : Nat)
    (e1 : H'[b + a]? = some ((arrV (dA kd) (hl S a) (fun j => av b kd (hI S a j) (hR S a j))).setSlot k9 v)) (e2 : H'.size = H.size) (e3 : ∀ q, q ≠ b + a → H'[q]? = H[q]?) : W p l e R s m args below meth c H' (locs ++ [⟨b + a, i9⟩]) (hn S - hn S0) (hu S - hu S0) Q (F0 m pc ls st) := by
  have hR := h1.putA hk8 ha en eu ek el eI eR hv (hr (h1.2.2.2.1 a k9)) hz9 e1 e2 e3
  have hB : hp_B S0 S' := by unfold hp_B at h3 ⊢; rw [en, eu]; exact h3
  have w := k H' (locs ++ [⟨b + a, i9⟩]) hR (fun z hz => by
    rcases List.mem_append.mp hz with h | h
    · exact h2 z h
    · rw [List.mem_singleton.mp h]; exact Nat.le_add_right _ _) hB (fun x hx => (e3 x (by omega)).trans (h4 x hx))
  rw [en, eu] at w
  exact w
theorem j_iast (C : hp_C p l e R s m args below meth c b D dA S0 own cc nL fr lo) {r : Option Nat} {i v : Int} (d : decode cc pc = .ok (.iastore, 1)) (hi : inR i) (hv : inR v) (hg : sI S r 8 i v = some S') (k : hp_J p l e R s m args below meth c b D dA S0 Q S' (pc + 1) ls st) : hp_J p l e R s m args below meth c b D dA S0 Q S pc ls (iv v :: iv i :: rf b r :: st) := by
  obtain ⟨a, rfl, ha, h0, h1, rfl⟩ := sI_some hg
  intro H locs q1 q2 q3 q4
  have hin := iv_in hi h0 h1
  refine W.iast C.1 C.2.1 (q1.arr (by decide) ha) ((hp_aro C.2.2.2.2.2.1.1).1 _ _) (fun q => by cases q) (by rw [arrV_size]; exact hin) rfl rfl d fun H' e1 e2 e3 => ?_
  rw [iv_clamp hi] at e1
  exact j_put2 (S' := wI S a i.toNat v) (by decide) ha rfl rfl rfl rfl (fun x j h => by rw [hI_wI, if_neg (by omega)]) (fun _ _ _ => rfl) (by rw [hI_wI, if_pos ⟨rfl, rfl⟩]; rfl) (fun _ => by rw [hI_wI, if_pos ⟨rfl, rfl⟩]; exact hv) (fun h => by cases h) k q1 q2 q3 q4 H' _ e1 e2 e3
theorem j_zast (C : hp_C p l e R s m args below meth c b D dA S0 own cc nL fr lo) {r : Option Nat} {i v : Int} (d : decode cc pc = .ok (.bastore, 1)) (hi : inR i) (hg : sZ S r i v = some S') (k : hp_J p l e R s m args below meth c b D dA S0 Q S' (pc + 1) ls st) : hp_J p l e R s m args below meth c b D dA S0 Q S pc ls (iv v :: iv i :: rf b r :: st) := by
  obtain ⟨a, rfl, ha, h0, h1, hz, rfl⟩ := sZ_some hg
  intro H locs q1 q2 q3 q4
  have hin := iv_in hi h0 h1
  refine W.zast C.1 C.2.1 (q1.arr (by decide) ha) ((hp_aro C.2.2.2.2.2.1.1).2.1 _ _) (fun q => by cases q) (by rw [arrV_size]; exact hin) rfl rfl d fun H' e1 e2 e3 => ?_
  rw [iv_clamp hi, show narrow .boolean (.int (Int32.ofInt v)) = iv v by rcases hz with rfl | rfl <;> decide] at e1
  exact j_put2 (S' := wI S a i.toNat v) (by decide) ha rfl rfl rfl rfl (fun x j h => by rw [hI_wI, if_neg (by omega)]) (fun _ _ _ => rfl) (by rw [hI_wI, if_pos ⟨rfl, rfl⟩]; rfl) (fun _ => by rw [hI_wI, if_pos ⟨rfl, rfl⟩]; rcases hz with rfl | rfl <;> decide) (fun _ => by rw [hI_wI, if_pos ⟨rfl, rfl⟩]; exact hz) k q1 q2 q3 q4 H' _ e1 e2 e3
/-- a new object -/
def nw_ok (own : String) (idx ci : Nat) : Prop := ci < 7 ∧ Cond.classLink own idx (RC ci) ∈ hp_ws ∧ Cond.instantiable (RC ci) (NC ci) ∈ hp_ws ∧ Cond.initialized (RC ci) ∈ hp_ws
theorem hp_B.grow {n u : Nat} {S0 S S' : AS} (h : hp_B S0 S) (e1 : hn S' = hn S + n) (e2 : hu S' = hu S + u) (h1 : hn S + n ≤ CM) (h2 : hu S + u ≤ UM) : hp_B S0 S' := by
  unfold hp_B at h ⊢
  rw [e1, e2]
  omega
theorem u_born_size {cC : ClassId} {kC : Class} {args : Array Value} {C0 : String} {n : Nat} (h : (Cond.instantiable C0 n).before args s = true) (hf : s.vm.findClass C0 = some cC) (hk9 : s.vm.classes[cC]? = some kC) : (blank cC kC).slots.size = n := by
  obtain ⟨c1, kX', hc1, hk, -, -, -, hn6⟩ := Cond.instantiable_spec h
  cases Option.some.inj (hc1.symm.trans hf)
  cases Option.some.inj (hk9.symm.trans hk)
  simp [blank, hn6]
theorem j_new (C : hp_C p l e R s m args below meth c b D dA S0 own cc nL fr lo) {idx ci : Nat} (d : decode cc pc = .ok (.new idx, 3)) (hf : nw_ok own idx ci) (hg : nO S (ci + 1) = some S') (k : hp_J p l e R s m args below meth c b D dA S0 Q S' (pc + 3) ls (rf b (some (hn S)) :: st)) : hp_J p l e R s m args below meth c b D dA S0 Q S pc ls st := by
  obtain ⟨g1, g2, rfl⟩ := nO_some hg
  obtain ⟨hci, w1, w2, w3⟩ := hf
  rw [Nat.add_sub_cancel] at g2 k
  intro H locs q1 q2 q3 q4
  have hKn := C.2.2.2.2.2.1.1.1 ci _ (vwC hci)
  have hts := C.2.2.2.2.1
  have hsz : H.size = b + hn S := q1.1
  have hRc := C.2.2.2.2.2.2.2.1
  have hRs := C.2.2.2.2.2.2.2.2.1
  have q3' : hn S0 ≤ hn S ∧ hn S ≤ CM ∧ hu S0 ≤ hu S ∧ hu S ≤ UM := q3
  refine W.newcK C.1 C.2.1 C.2.2.2.1 (hts _ w1) (hts _ w2) (hts _ w3) rfl d (by rw [hRc]; omega) (by rw [hRs]; omega) hKn.2.1 hsz fun H' kC hkC e1 z1 o1 => ?_
  have hR := q1.new (kd := ci + 1) (len := 0) (sl := NC ci) (by omega) (by
    unfold va_at hp_e
    simp only [if_pos (show ci + 1 ≤ 7 by omega), Nat.add_sub_cancel]
    rw [hsz]
    refine ⟨_, vwC hci, (u_born (tyC ci) hts (inW hci) hKn hkC e1 (tyC_ok hci)).to (fun j hj => ?_)⟩
    rw [fls_at hj]
    exact fv_def (kdC hci j hj)) (by rw [z1, hsz]) (fun q hq => o1 q (by omega)) (by rw [hsz]; exact e1) (u_born_size (hts _ w2) hKn.2.1 hkC)
  have w := k H' locs hR q2 (hp_B.grow (n := 1) (u := NC ci) q3 rfl rfl (by omega) g2) (fun x hx => (o1 x (by omega)).trans (q4 x hx))
  rw [hn_wN, hu_wN] at w
  rw [show hn S - hn S0 + 1 = hn S + 1 - hn S0 by omega, show hu S - hu S0 + NC ci = hu S + NC ci - hu S0 by omega]
  exact w
end J
