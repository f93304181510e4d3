/-- locals that hold these values, none of them of two words -/
def hp_L (ls : Array Slot) (nL : Nat) (lv : List (Nat × Value)) : Prop := lv_has ls nL lv ∧ ∀ q ∈ lv, q.2.category = 1
theorem hp_L.at {ls : Array Slot} {nL : Nat} {lv : List (Nat × Value)} (h : hp_L ls nL lv) (k : Nat) {i : Nat} {v : Value} (hk9 : lv[k]? = some (i, v)) : ls[i]? = some (.val v) := lv_at h.1 k hk9
theorem hp_L.sub {ls : Array Slot} {nL : Nat} {lv lv' : List (Nat × Value)} (h : hp_L ls nL lv) (ks : List Nat) (hs : ks.filterMap (fun i => lv[i]?) = lv') : hp_L ls nL lv' := by
  have hm : ∀ q ∈ lv', q ∈ lv := fun q hq => by
    rw [← hs] at hq
    obtain ⟨i, -, hi⟩ := List.mem_filterMap.mp hq
    exact List.mem_of_getElem? hi
  exact ⟨⟨h.1.1, h.1.2.1, fun q hq => h.1.2.2 q (hm q hq)⟩, fun q hq => h.2 q (hm q hq)⟩
theorem hp_L.put {ls ls' : Array Slot} {nL i : Nat} {v : Value} {lv lv' : List (Nat × Value)} (h : hp_L ls nL lv) (hv : v.category = 1) (hl : (i, v) :: lv.filter (fun q => !(q.1 == i)) = lv') : (i, v) :: lv.filter (fun q => !(q.1 == i) && !(q.1 + 1 == i && q.2.category == 2)) = lv' ∧ (lv_has ls' nL lv' → hp_L ls' nL lv') := by
  have e : lv.filter (fun q => !(q.1 == i) && !(q.1 + 1 == i && q.2.category == 2)) = lv.filter (fun q => !(q.1 == i)) := by
    apply List.filter_congr
    intro q hq
    rw [h.2 q hq]
    simp
  refine ⟨by rw [e]; exact hl, fun h9 => ⟨h9, fun q hq => ?_⟩⟩
  rw [← hl] at hq
  rcases List.mem_cons.mp hq with rfl | hq
  · exact hv
  · exact h.2 q (List.mem_filter.mp hq).1
theorem hp_L.of {ls : Array Slot} {nL : Nat} {As : List Value} (h : lv_has ls nL (lv1 0 As)) (hcat : ∀ v ∈ As, v.category = 1) : hp_L ls nL (lv1 0 As) := by
  refine ⟨h, ?_⟩
  have : ∀ (vs : List Value) (i : Nat), (∀ v ∈ vs, v.category = 1) → ∀ q ∈ lv1 i vs, q.2.category = 1 := by
    intro vs
    induction vs with
    | nil => intro i _ q hq; cases hq
    | cons v vs ih =>
      intro i hv q hq
      rcases List.mem_cons.mp hq with rfl | hq
      · exact hv v List.mem_cons_self
      · exact ih (i + 1) (fun w hw => hv w (List.mem_cons_of_mem _ hw)) q hq
  exact this As 0 hcat
def gd (c : Bool) (x : Option RS) : Option RS := if c = true then x else none
theorem gd_some {c : Bool} {x : Option RS} {q : RS} (h : gd c x = some q) : c = true ∧ x = some q := by
  unfold gd at h
  split at h
  · exact ⟨by assumption, h⟩
  · cases h
theorem bd {α β : Type} {x : Option α} {f : α → Option β} {q : β} (h : x.bind f = some q) : ∃ v, x = some v ∧ f v = some q := Option.bind_eq_some_iff.mp h
section J
variable {p : Program} {l : Launch} {e : Env} {R : Room} {s : State} {m : MethodId} {args : Array Value} {below : List Frame} {meth : Method} {c : Code}
variable {b : Nat} {D : va_G} {dA : Nat → ClassId} {S0 S S' : AS} {Q : State → Prop} {own : String} {cc : ByteArray} {nL pc fr lo : Nat} {ls : Array Slot} {st : List Value}
theorem k_istore_n (C : hp_C p l e R s m args below meth c b D dA S0 own cc nL fr lo) {k9 : Fin 4} {i : Nat} {x : Int} {lv lv' : List (Nat × Value)} (d : decode cc pc = .ok (.istore_n k9, 1)) (hi : (k9 : Nat) = i) (h : hp_L ls nL lv) (hn9 : i < nL) (hl : (i, iv x) :: lv.filter (fun q => !(q.1 == i)) = lv') (k : ∀ ls' : Array Slot, hp_L ls' nL lv' → hp_J p l e R s m args below meth c b D dA S0 Q S (pc + 1) ls' st) : hp_J p l e R s m args below meth c b D dA S0 Q S pc ls (iv x :: st) :=
  j_istore_n C d hi h.1 hn9 (h.put (ls' := ls) (cat_iv x) hl).1 (fun ls' h' => k ls' ((h.put (cat_iv x) hl).2 h'))
theorem k_istore (C : hp_C p l e R s m args below meth c b D dA S0 own cc nL fr lo) {i : Nat} {x : Int} {lv lv' : List (Nat × Value)} (d : decode cc pc = .ok (.istore i, 2)) (h : hp_L ls nL lv) (hn9 : i < nL) (hl : (i, iv x) :: lv.filter (fun q => !(q.1 == i)) = lv') (k : ∀ ls' : Array Slot, hp_L ls' nL lv' → hp_J p l e R s m args below meth c b D dA S0 Q S (pc + 2) ls' st) : hp_J p l e R s m args below meth c b D dA S0 Q S pc ls (iv x :: st) :=
  j_istore C d h.1 hn9 (h.put (ls' := ls) (cat_iv x) hl).1 (fun ls' h' => k ls' ((h.put (cat_iv x) hl).2 h'))
theorem k_astore_n (C : hp_C p l e R s m args below meth c b D dA S0 own cc nL fr lo) {k9 : Fin 4} {i : Nat} {x : Option Nat} {lv lv' : List (Nat × Value)} (d : decode cc pc = .ok (.astore_n k9, 1)) (hi : (k9 : Nat) = i) (h : hp_L ls nL lv) (hn9 : i < nL) (hl : (i, rf b x) :: lv.filter (fun q => !(q.1 == i)) = lv') (k : ∀ ls' : Array Slot, hp_L ls' nL lv' → hp_J p l e R s m args below meth c b D dA S0 Q S (pc + 1) ls' st) : hp_J p l e R s m args below meth c b D dA S0 Q S pc ls (rf b x :: st) :=
  j_astore_n C d hi h.1 hn9 (h.put (ls' := ls) (cat_rf b x) hl).1 (fun ls' h' => k ls' ((h.put (cat_rf b x) hl).2 h'))
theorem k_astore (C : hp_C p l e R s m args below meth c b D dA S0 own cc nL fr lo) {i : Nat} {x : Option Nat} {lv lv' : List (Nat × Value)} (d : decode cc pc = .ok (.astore i, 2)) (h : hp_L ls nL lv) (hn9 : i < nL) (hl : (i, rf b x) :: lv.filter (fun q => !(q.1 == i)) = lv') (k : ∀ ls' : Array Slot, hp_L ls' nL lv' → hp_J p l e R s m args below meth c b D dA S0 Q S (pc + 2) ls' st) : hp_J p l e R s m args below meth c b D dA S0 Q S pc ls (rf b x :: st) :=
  j_astore C d h.1 hn9 (h.put (ls' := ls) (cat_rf b x) hl).1 (fun ls' h' => k ls' ((h.put (cat_rf b x) hl).2 h'))
theorem k_iinc (C : hp_C p l e R s m args below meth c b D dA S0 own cc nL fr lo) {i k9 : Nat} {n x z : Int} {lv lv' : List (Nat × Value)} (d : decode cc pc = .ok (.iinc i n, 3)) (h : hp_L ls nL lv) (hk9 : lv[k9]? = some (i, iv x)) (hz : chk (x + n) = some z) (hn9 : i < nL) (hl : (i, iv z) :: lv.filter (fun q => !(q.1 == i)) = lv') (k : inR z → ∀ ls' : Array Slot, hp_L ls' nL lv' → hp_J p l e R s m args below meth c b D dA S0 Q S (pc + 3) ls' st) : hp_J p l e R s m args below meth c b D dA S0 Q S pc ls st :=
  j_iinc C d h.1 hk9 hz hn9 (h.put (ls' := ls) (cat_iv z) hl).1 (fun hr ls' h' => k hr ls' ((h.put (cat_iv z) hl).2 h'))
theorem j_callI (C : hp_C p l e R s m args below meth c b D dA S0 own cc nL fr lo) {v : Int} {r : Option Nat} {S1 : AS} {st0 rest : List Value} (hr : hp_run p l e R s m args below meth c b D dA S0 S pc ls st0 rest 1 ((0, v, r), S1)) (k : inR v → hp_J p l e R s m args below meth c b D dA S0 Q S1 (pc + 3) ls (iv v :: rest)) : hp_J p l e R s m args below meth c b D dA S0 Q S pc ls st0 :=
  j_back C hr rfl (fun h => k (h rfl))
theorem j_callR (C : hp_C p l e R s m args below meth c b D dA S0 own cc nL fr lo) {v : Int} {r : Option Nat} {S1 : AS} {st0 rest : List Value} (hr : hp_run p l e R s m args below meth c b D dA S0 S pc ls st0 rest 2 ((0, v, r), S1)) (k : hp_J p l e R s m args below meth c b D dA S0 Q S1 (pc + 3) ls (rf b r :: rest)) : hp_J p l e R s m args below meth c b D dA S0 Q S pc ls st0 :=
  j_back C hr rfl (fun _ => k)
theorem j_callV (C : hp_C p l e R s m args below meth c b D dA S0 own cc nL fr lo) {x : Int × Option Nat} {S1 : AS} {st0 rest : List Value} (hr : hp_run p l e R s m args below meth c b D dA S0 S pc ls st0 rest 0 ((0, x), S1)) (k : hp_J p l e R s m args below meth c b D dA S0 Q S1 (pc + 3) ls rest) : hp_J p l e R s m args below meth c b D dA S0 Q S pc ls st0 :=
  j_back C hr rfl (fun _ => k)
theorem run_W (C : hp_C p l e R s m args below meth c b D dA S0 own cc nL fr lo) {y : MethodName} {cc' : ByteArray} {maxL n idx fr' lo' rk ci : Nat} {r : Option Nat} {ret : Option FieldType} {As rest : List Value} {q : RS} (hM : hp_M l b D dA y cc' maxL ret fr' lo' (rf b r :: As) S rk q) (hc : cv_ok own idx y cc' maxL n ret) (hci : ci < 7) (hcls : y.cls = RC ci) (ha : isK S r (ci + 1) = true) {lv9 : List (Nat × Value)} (hn9 : As.length = n) (hls : hp_L ls nL lv9) (hW : (rest.map fun v => v.category).sum ≤ 8) (hfr : fr' + 1 ≤ fr) (hlo : 8 + (maxL + 11) + lo' ≤ lo) (d : decode cc pc = .ok (.invokevirtual idx, 3)) :
    hp_run p l e R s m args below meth c b D dA S0 S pc ls (As.reverse ++ rf b r :: rest) rest rk q := by
  obtain ⟨a, rfl, ha9⟩ := isK_some ha
  exact run_V C hM hc hci hcls ha9 hn9 hls.1.1 hW hfr hlo d
theorem tw_of {L : List Cond} (h1 : ∀ w ∈ L.filter goodWord, w ∈ lw_tbl) (h2 : ∀ w ∈ L.filter (fun w => !goodWord w), w ∈ hp_bad) : ∀ w ∈ L, w ∈ hp_ws ∨ w ∈ hp_bad := fun w hw => by
  by_cases hg : goodWord w = true
  · exact Or.inl (hp_in (h1 w (List.mem_filter.mpr ⟨hw, hg⟩)) hg)
  · exact Or.inr (h2 w (List.mem_filter.mpr ⟨hw, by simpa using hg⟩))
theorem mw (i : Nat) {w : Cond} (h : lw_tbl[i]? = some w ∧ goodWord w = true) : w ∈ hp_ws := hp_in (List.mem_of_getElem? h.1) h.2
end J
