theorem gdC0 : ∀ w ∈ u_ws RX0 TX0 5, goodWord w = true := by decide +kernel
theorem gdC1 : ∀ w ∈ u_ws RX1 TX1 7, goodWord w = true := by decide +kernel
theorem gdC2 : ∀ w ∈ u_ws RX2 TX2 3, goodWord w = true := by decide +kernel
theorem gdC3 : ∀ w ∈ u_ws RX3 TX3 3, goodWord w = true := by decide +kernel
theorem gdC4 : ∀ w ∈ u_ws RX4 TX4 7, goodWord w = true := by decide +kernel
theorem gdC5 : ∀ w ∈ u_ws RX5 TX5 7, goodWord w = true := by decide +kernel
theorem gdC6 : ∀ w ∈ u_ws RX6 TX6 28, goodWord w = true := by decide +kernel
theorem inW {ci : Nat} (h : ci < 7) : ∀ w ∈ u_ws (RC ci) (TC ci) (NC ci), w ∈ hp_ws := fun w hw => hp_in (inC h w hw) (by
  match ci, h with
  | 0, _ => exact gdC0 w hw
  | 1, _ => exact gdC1 w hw
  | 2, _ => exact gdC2 w hw
  | 3, _ => exact gdC3 w hw
  | 4, _ => exact gdC4 w hw
  | 5, _ => exact gdC5 w hw
  | 6, _ => exact gdC6 w hw)
def fl_ok (own : String) (idx ci k : Nat) : Prop := ci < 7 ∧ k < NC ci ∧ Cond.fieldLink own idx (TC ci k).1 (TC ci k).2.1 (TC ci k).2.2.1 ∈ hp_ws
theorem fv_int {b : Nat} {ty : FieldType} {i : Int} {r : Option Nat} (h : ty = .int ∨ ty = .boolean) : fv b ty i r = iv i := by rcases h with rfl | rfl <;> rfl
def isRt (ty : FieldType) : Bool := match ty with
  | .object _ => true
  | .array _ => true
  | _ => false
theorem fv_ref {b : Nat} {ty : FieldType} {i : Int} {r : Option Nat} (h : isRt ty = true) : fv b ty i r = rf b r := by
  cases ty <;> first | rfl | cases h
theorem fits_rf {b : Nat} {ty : FieldType} {r : Option Nat} (h : isRt ty = true) : narrow ty (rf b r) = rf b r ∧ fits ty (rf b r) = true := by
  cases ty <;> first | (cases h; done) | (cases r <;> exact ⟨rfl, rfl⟩)
/-- an object's field written: the picture -/
theorem hp_R.putO {b : Nat} {D : va_G} {dA : Nat → ClassId} {S S' : AS} {H H' : Heap} (h : hp_R b D dA S H) {a ci k : Nat} (hci : ci < 7) (ha : hk S a = ci + 1) (hk9 : k < NC ci) {v : Value} {cell : Cell} (hap : ∀ x y, x < NC ci → y < NC ci → x ≠ y → (D.2 ci) x ≠ (D.2 ci) y)
    (q1 : H[b + a]? = some cell) (q2 : cell.cls = D.1 ci) (q3 : cell.vm = .none) (q4 : ∀ j, j < NC ci → cell.slots[D.2 ci j]? = some (vp_V (fls b ci (hI S a) (hR S a)) j))
    (en : hn S' = hn S) (eu : hu S' = hu S) (ek : hk S' = hk S) (el : hl S' = hl S) (eI : ∀ x j, (x ≠ a ∨ j ≠ k) → hI S' x j = hI S x j) (eR : ∀ x j, (x ≠ a ∨ j ≠ k) → hR S' x j = hR S x j) (hv : v = fv b (tyC ci k) (hI S' a k) (hR S' a k)) (hr : inR (hI S' a k))
    (e1 : H'[b + a]? = some (cell.setSlot (D.2 ci k) v)) (z : H'.size = H.size) (o : ∀ q, q ≠ b + a → H'[q]? = H[q]?) : hp_R b D dA S' H' := by
  refine h.upd a en eu ek el (fun x hx => funext fun j => eI x j (Or.inl hx)) (fun x hx => funext fun j => eR x j (Or.inl hx)) ?_ z o ?_ ?_ ?_
  · rw [ha]
    unfold va_at hp_e
    simp only [if_pos (show ci + 1 ≤ 7 by omega), Nat.add_sub_cancel]
    refine ⟨_, vwC hci, t_OB.to (V := updV (vp_V (fls b ci (hI S a) (hR S a))) k v) ⟨_, e1, q2, q3, t_set q4 hap hk9 v⟩ (fun j hj => ?_)⟩
    rw [fls_at hj]
    unfold updV
    by_cases hjk : j = k
    · subst hjk
      rw [if_pos rfl, hv]
    · rw [if_neg hjk, fls_at hj, eI a j (Or.inr hjk), eR a j (Or.inr hjk)]
  · rw [e1, q1]
    simp [k2_slotsz]
  · intro j
    by_cases hjk : j = k
    · subst hjk; exact hr
    · rw [eI a j (Or.inr hjk)]; exact h.2.2.2.1 a j
  · intro hz
    omega
section J
variable {p : Program} {l : Launch} {e : Env} {R : Room} {s : State} {m : MethodId} {args : Array Value} {below : List Frame} {meth : Method} {c : Code}
variable {b : Nat} {D : va_G} {dA : Nat → ClassId} {S0 S S' : AS} {Q : State → Prop} {own : String} {cc : ByteArray} {nL pc fr lo : Nat} {ls : Array Slot} {st : List Value}
theorem hp_apart (C : hp_C p l e R s m args below meth c b D dA S0 own cc nL fr lo) {ci : Nat} (hci : ci < 7) : ∀ x y, x < NC ci → y < NC ci → x ≠ y → (D.2 ci) x ≠ (D.2 ci) y :=
  va_apart (own := own) C.2.2.2.2.1 (inW hci) (tyC ci) (tyC_ok hci) (nmC hci) C.2.2.2.2.2.1.1 (vwC hci)
theorem j_get (C : hp_C p l e R s m args below meth c b D dA S0 own cc nL fr lo) {idx ci k9 a : Nat} (d : decode cc pc = .ok (.getfield idx, 3)) (hf : fl_ok own idx ci k9) (ha : hk S a = ci + 1) (k : hp_J p l e R s m args below meth c b D dA S0 Q S (pc + 3) ls (fv b (tyC ci k9) (hI S a k9) (hR S a k9) :: st)) : hp_J p l e R s m args below meth c b D dA S0 Q S pc ls (rf b (some a) :: st) := by
  intro H locs h1 h2 h3 h4
  obtain ⟨hci, hk9, hw⟩ := hf
  obtain ⟨cell, q1, q2, q3, q4⟩ := h1.obj hci ha
  obtain ⟨hS, hfc, kC, hkC, hkind⟩ := C.2.2.2.2.2.1.1.1 ci _ (vwC hci)
  obtain ⟨cf, kf, fi, f, hi, hsl⟩ := hS k9 hk9
  refine W.getf C.1 C.2.1 C.2.2.2.1 (C.2.2.2.2.1 _ hw) hi (u_facts hfc hkC (u_lays C.2.2.2.2.1 (inW hci) hk9) hi).1 q1 (by rw [q3]; exact fun h => by cases h) (v := fv b (tyC ci k9) (hI S a k9) (hR S a k9)) ?_ rfl rfl d (k H locs h1 h2 h3 h4)
  rw [hsl, q4 k9 hk9, fls_at hk9]
theorem j_gI (C : hp_C p l e R s m args below meth c b D dA S0 own cc nL fr lo) {idx ci k9 : Nat} {r : Option Nat} {v : Int} (d : decode cc pc = .ok (.getfield idx, 3)) (hf : fl_ok own idx ci k9) (hty : tyC ci k9 = .int ∨ tyC ci k9 = .boolean) (hg : gI S r (ci + 1) k9 = some v) (k : inR v → hp_J p l e R s m args below meth c b D dA S0 Q S (pc + 3) ls (iv v :: st)) : hp_J p l e R s m args below meth c b D dA S0 Q S pc ls (rf b r :: st) := by
  obtain ⟨a, rfl, ha, rfl⟩ := gI_some hg
  refine j_get C d hf ha ?_
  rw [fv_int hty]
  exact fun H locs h1 h2 h3 h4 => k (h1.2.2.2.1 a k9) H locs h1 h2 h3 h4
theorem j_gR (C : hp_C p l e R s m args below meth c b D dA S0 own cc nL fr lo) {idx ci k9 : Nat} {r v : Option Nat} (d : decode cc pc = .ok (.getfield idx, 3)) (hf : fl_ok own idx ci k9) (hty : isRt (tyC ci k9) = true) (hg : gR S r (ci + 1) k9 = some v) (k : hp_J p l e R s m args below meth c b D dA S0 Q S (pc + 3) ls (rf b v :: st)) : hp_J p l e R s m args below meth c b D dA S0 Q S pc ls (rf b r :: st) := by
  obtain ⟨a, rfl, ha, rfl⟩ := gR_some hg
  refine j_get C d hf ha ?_
  rw [fv_ref hty]
  exact k
theorem j_put (C : hp_C p l e R s m args below meth c b D dA S0 own cc nL fr lo) {idx ci k9 a : Nat} {v : Value} (d : decode cc pc = .ok (.putfield idx, 3)) (hf : fl_ok own idx ci k9) (hfin : (TC ci k9).2.2.2 = false ∨ ((TC ci k9).2.2.2 = true ∧ meth.name = "<init>" ∧ (TC ci k9).1 = own)) (ha : hk S a = ci + 1) (hfit : narrow (tyC ci k9) v = v ∧ fits (tyC ci k9) v = true)
    (en : hn S' = hn S) (eu : hu S' = hu S) (ek : hk S' = hk S) (el : hl S' = hl S) (eI : ∀ x j, (x ≠ a ∨ j ≠ k9) → hI S' x j = hI S x j) (eR : ∀ x j, (x ≠ a ∨ j ≠ k9) → hR S' x j = hR S x j) (hv : v = fv b (tyC ci k9) (hI S' a k9) (hR S' a k9)) (hr : inR (hI S a k9) → inR (hI S' a k9))
    (k : hp_J p l e R s m args below meth c b D dA S0 Q S' (pc + 3) ls st) : hp_J p l e R s m args below meth c b D dA S0 Q S pc ls (v :: rf b (some a) :: st) := by
  intro H locs h1 h2 h3 h4
  obtain ⟨hci, hk9, hw⟩ := hf
  obtain ⟨cell, q1, q2, q3, q4⟩ := h1.obj hci ha
  obtain ⟨hS, hfc, kC, hkC, hkind⟩ := C.2.2.2.2.2.1.1.1 ci _ (vwC hci)
  obtain ⟨cf, kf, fi, f, hi, hsl⟩ := hS k9 hk9
  have hlay := C.2.2.2.2.1 _ (inW hci _ (u_in_lay hk9))
  have hst := (u_facts hfc hkC (u_lays C.2.2.2.2.1 (inW hci) hk9) hi).1
  have hd := tyC_ok hci k9 hk9
  have go : ∀ H' : Heap, H'[b + a]? = some (cell.setSlot f.slot v) → H'.size = H.size → (∀ q, q ≠ b + a → H'[q]? = H[q]?) → W p l e R s m args below meth c H' (locs ++ [⟨b + a, f.slot⟩]) (hn S - hn S0) (hu S - hu S0) Q (F0 m (pc + 3) ls st) := by
    intro H' e1 e2 e3
    rw [hsl] at e1
    have hR := h1.putO hci ha hk9 (hp_apart C hci) q1 q2 q3 q4 en eu ek el eI eR hv (hr (h1.2.2.2.1 a k9)) e1 e2 e3
    have hlt : b + a < H.size := (Array.getElem?_eq_some_iff.mp q1).1
    have hB : hp_B S0 S' := by unfold hp_B at h3 ⊢; rw [en, eu]; exact h3
    have w := k H' (locs ++ [⟨b + a, f.slot⟩]) hR (fun z hz => by
      rcases List.mem_append.mp hz with h | h
      · exact h2 z h
      · rw [List.mem_singleton.mp h]; exact Nat.le_add_right _ _) hB (fun x hx => (e3 x (by omega)).trans (h4 x hx))
    rw [en, eu] at w
    exact w
  unfold u_lay at hlay
  rcases hfin with hfin | ⟨hfin, hin, hdecl⟩
  · rw [if_neg (by rw [hfin]; decide)] at hlay
    have h6 := u_store hfc hkC hkind hlay hi hd hfit.1 hfit.2
    exact W.putK C.1 C.2.1 (f := f) ⟨C.2.2.2.1, C.2.2.2.2.1 _ hw, ⟨_, _, _, hi⟩, hst⟩ (by rw [q2]; exact h6) q1 q3 (by rw [hsl]; exact k2_hasslot (q4 k9 hk9)) rfl rfl d go
  · rw [if_pos hfin] at hlay
    have hcf : m.cls = cf := by
      obtain ⟨_, _, c', _, _, _, -, -, hf', -, -, -, hown2, -⟩ := Cond.laysFinal_spec hlay
      have e1 : c' = cf := by have := hi.symm.trans hf'; simp at this; exact this.1.symm
      rw [hdecl] at hown2
      rw [← e1]; exact Option.some.inj (C.2.2.2.1.symm.trans hown2)
    have h6 := u_fits hfc hkC hkind (Or.inr hlay) hi hd hfit.1 hfit.2
    exact W.putFinK C.1 C.2.1 C.2.2.2.1 (C.2.2.2.2.1 _ hw) hi hst hcf hin (by rw [q2]; exact h6) q1 q3 (by rw [hsl]; exact k2_hasslot (q4 k9 hk9)) rfl rfl d go
theorem j_pI (C : hp_C p l e R s m args below meth c b D dA S0 own cc nL fr lo) {idx ci k9 : Nat} {r : Option Nat} {v : Int} (d : decode cc pc = .ok (.putfield idx, 3)) (hf : fl_ok own idx ci k9) (hfin : (TC ci k9).2.2.2 = false ∨ ((TC ci k9).2.2.2 = true ∧ meth.name = "<init>" ∧ (TC ci k9).1 = own)) (hty : tyC ci k9 = .int) (hv : inR v) (hg : pI S r (ci + 1) k9 v = some S') (k : hp_J p l e R s m args below meth c b D dA S0 Q S' (pc + 3) ls st) : hp_J p l e R s m args below meth c b D dA S0 Q S pc ls (iv v :: rf b r :: st) := by
  obtain ⟨a, rfl, ha, rfl⟩ := pI_some hg
  refine j_put (S' := wI S a k9 v) C d hf hfin ha (by rw [hty]; exact ⟨rfl, rfl⟩) rfl rfl rfl rfl (fun x j h => by rw [hI_wI, if_neg (by omega)]) (fun _ _ _ => rfl) (by rw [fv_int (Or.inl hty), hI_wI, if_pos ⟨rfl, rfl⟩]) (fun _ => by rw [hI_wI, if_pos ⟨rfl, rfl⟩]; exact hv) k
theorem j_pZ (C : hp_C p l e R s m args below meth c b D dA S0 own cc nL fr lo) {idx ci k9 : Nat} {r : Option Nat} {v : Int} (d : decode cc pc = .ok (.putfield idx, 3)) (hf : fl_ok own idx ci k9) (hfin : (TC ci k9).2.2.2 = false ∨ ((TC ci k9).2.2.2 = true ∧ meth.name = "<init>" ∧ (TC ci k9).1 = own)) (hty : tyC ci k9 = .boolean) (hg : pZ S r (ci + 1) k9 v = some S') (k : hp_J p l e R s m args below meth c b D dA S0 Q S' (pc + 3) ls st) : hp_J p l e R s m args below meth c b D dA S0 Q S pc ls (iv v :: rf b r :: st) := by
  obtain ⟨a, rfl, ha, hz, rfl⟩ := pZ_some hg
  refine j_put (S' := wI S a k9 v) C d hf hfin ha (by rw [hty]; rcases hz with rfl | rfl <;> exact ⟨by decide, by decide⟩) rfl rfl rfl rfl (fun x j h => by rw [hI_wI, if_neg (by omega)]) (fun _ _ _ => rfl) (by rw [fv_int (Or.inr hty), hI_wI, if_pos ⟨rfl, rfl⟩]) (fun _ => by rw [hI_wI, if_pos ⟨rfl, rfl⟩]; rcases hz with rfl | rfl <;> decide) k
theorem j_pR (C : hp_C p l e R s m args below meth c b D dA S0 own cc nL fr lo) {idx ci k9 : Nat} {r v : Option Nat} (d : decode cc pc = .ok (.putfield idx, 3)) (hf : fl_ok own idx ci k9) (hfin : (TC ci k9).2.2.2 = false ∨ ((TC ci k9).2.2.2 = true ∧ meth.name = "<init>" ∧ (TC ci k9).1 = own)) (hty : isRt (tyC ci k9) = true) (hg : pR S r (ci + 1) k9 v = some S') (k : hp_J p l e R s m args below meth c b D dA S0 Q S' (pc + 3) ls st) : hp_J p l e R s m args below meth c b D dA S0 Q S pc ls (rf b v :: rf b r :: st) := by
  obtain ⟨a, rfl, ha, rfl⟩ := pR_some hg
  refine j_put (S' := wR S a k9 v) C d hf hfin ha (fits_rf hty) rfl rfl rfl rfl (fun _ _ _ => rfl) (fun x j h => by rw [hR_wR, if_neg (by omega)]) (by rw [fv_ref hty, hR_wR, if_pos ⟨rfl, rfl⟩]) id k
end J
