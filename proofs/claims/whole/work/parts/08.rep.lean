def RC (ci : Nat) : String := match ci with
  | 0 => RX0
  | 1 => RX1
  | 2 => RX2
  | 3 => RX3
  | 4 => RX4
  | 5 => RX5
  | _ => RX6
def TC (ci : Nat) : u_T := match ci with
  | 0 => TX0
  | 1 => TX1
  | 2 => TX2
  | 3 => TX3
  | 4 => TX4
  | 5 => TX5
  | _ => TX6
theorem vwC {ci : Nat} (h : ci < 7) : vwCl[ci]? = some (RC ci, TC ci, NC ci) := by
  match ci, h with
  | 0, _ => rfl
  | 1, _ => rfl
  | 2, _ => rfl
  | 3, _ => rfl
  | 4, _ => rfl
  | 5, _ => rfl
  | 6, _ => rfl
theorem tyC_ok {ci : Nat} (h : ci < 7) : ∀ k, k < NC ci → parseFieldDescriptor (TC ci k).2.2.1 = some (tyC ci k) := by
  match ci, h with
  | 0, _ => exact tyX0_ok
  | 1, _ => exact tyX1_ok
  | 2, _ => exact tyX2_ok
  | 3, _ => exact tyX3_ok
  | 4, _ => exact tyX4_ok
  | 5, _ => exact tyX5_ok
  | 6, _ => exact tyX6_ok
theorem nmC {ci : Nat} (h : ci < 7) : ∀ a, a < NC ci → ∀ b, b < NC ci → a ≠ b → (TC ci a).2.1 ≠ (TC ci b).2.1 := by
  match ci, h with
  | 0, _ => exact nmX0
  | 1, _ => exact nmX1
  | 2, _ => exact nmX2
  | 3, _ => exact nmX3
  | 4, _ => exact nmX4
  | 5, _ => exact nmX5
  | 6, _ => exact nmX6
theorem inC0 : ∀ w ∈ u_ws RX0 TX0 5, w ∈ lw_tbl := by decide +kernel
theorem inC1 : ∀ w ∈ u_ws RX1 TX1 7, w ∈ lw_tbl := by decide +kernel
theorem inC2 : ∀ w ∈ u_ws RX2 TX2 3, w ∈ lw_tbl := by decide +kernel
theorem inC3 : ∀ w ∈ u_ws RX3 TX3 3, w ∈ lw_tbl := by decide +kernel
theorem inC4 : ∀ w ∈ u_ws RX4 TX4 7, w ∈ lw_tbl := by decide +kernel
theorem inC5 : ∀ w ∈ u_ws RX5 TX5 7, w ∈ lw_tbl := by decide +kernel
theorem inC6 : ∀ w ∈ u_ws RX6 TX6 28, w ∈ lw_tbl := by decide +kernel
theorem inC {ci : Nat} (h : ci < 7) : ∀ w ∈ u_ws (RC ci) (TC ci) (NC ci), w ∈ lw_tbl := by
  match ci, h with
  | 0, _ => exact inC0
  | 1, _ => exact inC1
  | 2, _ => exact inC2
  | 3, _ => exact inC3
  | 4, _ => exact inC4
  | 5, _ => exact inC5
  | 6, _ => exact inC6
/-! the slots in use, out of the heap -/
theorem hp_sum_eq {b : Nat} {H H' : Heap} (h : ∀ q : Nat, (H'[q]?).map (fun c => c.slots.size) = (H[q]?).map (fun c => c.slots.size)) : hp_sum b H' = hp_sum b H := by
  unfold hp_sum
  congr 1
  apply List.ext_getElem?
  intro i
  rw [List.getElem?_map, List.getElem?_map, List.getElem?_drop, List.getElem?_drop, Array.getElem?_toList, Array.getElem?_toList]
  exact h (b + i)
theorem hp_sum_push {b : Nat} {H H' : Heap} {x : Cell} (hb : b ≤ H.size) (z : H'.size = H.size + 1) (o : ∀ q, q < H.size → H'[q]? = H[q]?) (e : H'[H.size]? = some x) : hp_sum b H' = hp_sum b H + x.slots.size := by
  have h1 : H'.toList = H.toList ++ [x] := by
    apply List.ext_getElem?
    intro i
    rw [Array.getElem?_toList]
    by_cases hi : i < H.size
    · rw [o i hi, List.getElem?_append_left (by simpa using hi), Array.getElem?_toList]
    · by_cases h2 : i = H.size
      · subst h2
        rw [e, List.getElem?_append_right (by simp)]
        simp
      · rw [Array.getElem?_eq_none (by omega), List.getElem?_eq_none (by simp; omega)]
  unfold hp_sum
  rw [h1, List.drop_append_of_le_length (by simpa using hb)]
  simp
theorem hp_sum_split {b : Nat} {H0 H : Heap} (hb : b ≤ H0.size) (z : H0.size ≤ H.size) (o : ∀ q, q < H0.size → (H[q]?).map (fun c => c.slots.size) = (H0[q]?).map (fun c => c.slots.size)) : hp_sum b H = hp_sum b H0 + ((H.toList.drop H0.size).map (·.slots.size)).sum := by
  have h1 : H.toList.map (·.slots.size) = H0.toList.map (·.slots.size) ++ (H.toList.drop H0.size).map (·.slots.size) := by
    apply List.ext_getElem?
    intro i
    by_cases hi : i < H0.size
    · rw [List.getElem?_append_left (by simpa using hi), List.getElem?_map, List.getElem?_map, Array.getElem?_toList, Array.getElem?_toList]
      exact o i hi
    · rw [List.getElem?_append_right (by simpa using hi), List.getElem?_map, List.getElem?_map, List.getElem?_drop]
      simp only [List.length_map, Array.length_toList]
      rw [show H0.size + (i - H0.size) = i by omega]
  unfold hp_sum
  rw [List.map_drop, List.map_drop, h1, List.drop_append_of_le_length (by simpa using hb), List.sum_append]
section HPW
variable {p : Program} {l : Launch} {e : Env} {R : Room} {s : State} {m : MethodId} {args : Array Value} {below : List Frame} {meth : Method} {c : Code} {H : Heap} {locs : List Loc} {cells slots : Nat} {Q : State → Prop}
/-- what has been made, counted anew -/
theorem hp_tight {b k n : Nat} {g : JFrame} (hb : b ≤ s.heap.size) (h1 : H.size ≤ s.heap.size + k) (h2 : hp_sum b H ≤ hp_sum b s.heap + n) (kk : W p l e R s m args below meth c H locs k n Q g) : W p l e R s m args below meth c H locs cells slots Q g := by
  intro T hT X
  refine kk T hT ⟨X.admits, X.cas, X.clock, X.frames, X.room, X.hears, X.method, X.code, X.here, X.tail, X.warmed, X.limits, X.bytes, ?_⟩
  obtain ⟨e1, e2, e3, e4, e5, e6⟩ := X.same
  have hTh : (T.setVm s.vm).heap = H := hT
  rw [hTh] at e2 e3 e4 e5 e6
  have hs : hp_sum b H = hp_sum b s.heap + ((H.toList.drop s.heap.size).map (·.slots.size)).sum := by
    refine hp_sum_split hb e2 fun q hq => ?_
    obtain ⟨c', h3, -, h5, -⟩ := e6 q _ (Array.getElem?_eq_getElem hq)
    rw [h3, Array.getElem?_eq_getElem hq]
    simp [h5]
  refine ⟨e1, by rw [hTh]; exact e2, by rw [hTh]; exact h1, by rw [hTh]; exact e4, by rw [hTh]; omega, by rw [hTh]; exact e6⟩
end HPW
/-! the picture through a write and a new cell -/
theorem va_at_size {D : va_G} {b : Nat} {dA : Nat → ClassId} {kd len len' : Nat} {I I' : Nat → Int} {Rf Rf' : Nat → Option Nat} {H : Heap} {a : Nat} : va_at D vwCl (a, hp_e b dA kd len I Rf) H → ∃ c : Cell, H[a]? = some c := by
  intro h
  unfold va_at hp_e at h
  by_cases h1 : kd ≤ 7
  · simp only [if_pos h1] at h
    obtain ⟨r, -, c, hc, -⟩ := h
    exact ⟨c, hc⟩
  · by_cases h2 : kd ≤ 9
    · simp only [if_neg h1, if_pos h2] at h
      exact ⟨_, h⟩
    · by_cases h3 : kd ≤ 12
      · simp only [if_neg h1, if_neg h2, if_pos h3] at h
        exact ⟨_, h⟩
      · simp only [if_neg h1, if_neg h2, if_neg h3] at h
        exact ⟨_, h⟩
theorem hp_R.upd {b : Nat} {D : va_G} {dA : Nat → ClassId} {S S' : AS} {H H' : Heap} (h : hp_R b D dA S H) (a : Nat) (en : hn S' = hn S) (eu : hu S' = hu S) (ek : hk S' = hk S) (el : hl S' = hl S)
    (eI : ∀ x, x ≠ a → hI S' x = hI S x) (eR : ∀ x, x ≠ a → hR S' x = hR S x) (hat : va_at D vwCl (b + a, hp_e b dA (hk S a) (hl S a) (hI S' a) (hR S' a)) H')
    (z : H'.size = H.size) (o : ∀ q, q ≠ b + a → H'[q]? = H[q]?) (hsz : (H'[b + a]?).map (fun c => c.slots.size) = (H[b + a]?).map (fun c => c.slots.size)) (hr : ∀ k, inR (hI S' a k)) (hz : hk S a = 9 → ∀ k, hI S' a k = 0 ∨ hI S' a k = 1) : hp_R b D dA S' H' := by
  obtain ⟨h1, h2, h3, h4, h5⟩ := h
  refine ⟨by rw [z, h1, en], ?_, fun x hx => ?_, fun x k => ?_, fun x k hx => ?_⟩
  · rw [eu, ← h2]
    refine hp_sum_eq fun q => ?_
    by_cases hq : q = b + a
    · subst hq; exact hsz
    · rw [o q hq]
  · rw [ek] at hx ⊢
    rw [el, en]
    obtain ⟨q1, q2, q3⟩ := h3 x hx
    refine ⟨q1, q2, ?_⟩
    by_cases hxa : x = a
    · subst hxa; exact hat
    · rw [eI x hxa, eR x hxa]
      exact q3.kept (o (b + x) (by omega))
  · by_cases hxa : x = a
    · subst hxa; exact hr k
    · rw [eI x hxa]; exact h4 x k
  · rw [ek] at hx
    by_cases hxa : x = a
    · subst hxa; exact hz hx k
    · rw [eI x hxa]; exact h5 x k hx
theorem hp_R.new {b : Nat} {D : va_G} {dA : Nat → ClassId} {S : AS} {H H' : Heap} {x : Cell} (h : hp_R b D dA S H) {kd len sl : Nat} (hkd : kd ≤ 13)
    (hat : va_at D vwCl (H.size, hp_e b dA kd len (fun _ => 0) (fun _ => none)) H')
    (z : H'.size = H.size + 1) (o : ∀ q, q < H.size → H'[q]? = H[q]?) (e : H'[H.size]? = some x) (hsz : x.slots.size = sl) : hp_R b D dA (wN S kd len sl) H' := by
  obtain ⟨h1, h2, h3, h4, h5⟩ := h
  refine ⟨by rw [z, h1, hn_wN]; omega, ?_, fun y hy => ?_, fun y k => ?_, fun y k hy => ?_⟩
  · rw [hp_sum_push (by omega) z o e, h2, hsz, hu_wN]
  · rw [hk_wN] at hy
    rw [hk_wN, hl_wN, hn_wN]
    by_cases hq : y = hn S
    · subst hq
      have eI : hI (wN S kd len sl) (hn S) = fun _ => 0 := by funext j; rw [hI_wN, if_pos rfl]
      have eR : hR (wN S kd len sl) (hn S) = fun _ => none := by funext j; rw [hR_wN, if_pos rfl]
      rw [if_pos rfl, if_pos rfl, eI, eR, ← h1]
      exact ⟨by omega, hkd, hat⟩
    · rw [if_neg hq] at hy ⊢
      obtain ⟨q1, q2, q3⟩ := h3 y hy
      have eI : hI (wN S kd len sl) y = hI S y := by funext j; rw [hI_wN, if_neg hq]
      have eR : hR (wN S kd len sl) y = hR S y := by funext j; rw [hR_wN, if_neg hq]
      rw [if_neg hq, eI, eR]
      exact ⟨by omega, q2, q3.kept (o (b + y) (by omega))⟩
  · rw [hI_wN]
    split
    · decide
    · exact h4 y k
  · rw [hk_wN] at hy
    rw [hI_wN]
    split
    · exact Or.inl rfl
    · rename_i hq
      rw [if_neg hq] at hy
      exact h5 y k hy
theorem hp_R.thrown {b : Nat} {D : va_G} {dA : Nat → ClassId} {S : AS} {H H' : Heap} {x : Cell} (h : hp_R b D dA S H) (z : H'.size = H.size + 1) (o : ∀ q, q < H.size → H'[q]? = H[q]?) (e : H'[H.size]? = some x) (hsz : x.slots.size = 6) : hp_R b D dA (wX S) H' := by
  obtain ⟨h1, h2, h3, h4, h5⟩ := h
  refine ⟨by rw [z, h1, hn_wX]; omega, ?_, fun y hy => ?_, h4, fun y k hy => ?_⟩
  · rw [hp_sum_push (by omega) z o e, h2, hsz, hu_wX]
  · rw [hk_wX] at hy ⊢
    by_cases hq : y = hn S
    · rw [if_pos hq] at hy
      exact absurd rfl hy
    · rw [if_neg hq] at hy ⊢
      obtain ⟨q1, q2, q3⟩ := h3 y hy
      exact ⟨by rw [hn_wX]; omega, q2, q3.kept (o (b + y) (by omega))⟩
  · rw [hk_wX] at hy
    split at hy
    · cases hy
    · exact h5 y k hy
/-! a cell out of the picture -/
theorem hp_R.obj {b : Nat} {D : va_G} {dA : Nat → ClassId} {S : AS} {H : Heap} (h : hp_R b D dA S H) {a ci : Nat} (hci : ci < 7) (ha : hk S a = ci + 1) : t_OB (b + a) (D.1 ci) (NC ci) (D.2 ci) H (vp_V (fls b ci (hI S a) (hR S a))) := by
  obtain ⟨-, -, h3, -, -⟩ := h
  obtain ⟨-, -, q⟩ := h3 a (by omega)
  rw [ha] at q
  unfold va_at hp_e at q
  simp only [if_pos (show ci + 1 ≤ 7 by omega), Nat.add_sub_cancel] at q
  obtain ⟨r, hr, ho⟩ := q
  have e : r = (RC ci, TC ci, NC ci) := Option.some.inj (hr.symm.trans (vwC hci))
  subst e
  exact ho
theorem fls_at {b ci k : Nat} {I : Nat → Int} {Rf : Nat → Option Nat} (hk : k < NC ci) : vp_V (fls b ci I Rf) k = fv b (tyC ci k) (I k) (Rf k) := by
  simp [vp_V, fls, hk]
theorem hp_R.ints {b : Nat} {D : va_G} {dA : Nat → ClassId} {S : AS} {H : Heap} (h : hp_R b D dA S H) {a kd : Nat} (hkd : kd = 8 ∨ kd = 9) (ha : hk S a = kd) : H[b + a]? = some (arrV (dA kd) (hl S a) (fun j => .int (Int32.ofInt (hI S a j)))) := by
  obtain ⟨-, -, h3, -, -⟩ := h
  obtain ⟨-, -, q⟩ := h3 a (by omega)
  rw [ha] at q
  unfold va_at hp_e at q
  simp only [if_neg (show ¬ kd ≤ 7 by omega), if_pos (show kd ≤ 9 by omega)] at q
  exact q
theorem hp_R.refs {b : Nat} {D : va_G} {dA : Nat → ClassId} {S : AS} {H : Heap} (h : hp_R b D dA S H) {a kd : Nat} (hk1 : 10 ≤ kd) (hk2 : kd ≤ 12) (ha : hk S a = kd) : H[b + a]? = some (arrV (dA kd) (hl S a) (fun j => rf b (hR S a j))) := by
  obtain ⟨-, -, h3, -, -⟩ := h
  obtain ⟨-, -, q⟩ := h3 a (by omega)
  rw [ha] at q
  unfold va_at hp_e at q
  simp only [if_neg (show ¬ kd ≤ 7 by omega), if_neg (show ¬ kd ≤ 9 by omega), if_pos (show kd ≤ 12 by omega)] at q
  exact q
theorem hp_R.longs {b : Nat} {D : va_G} {dA : Nat → ClassId} {S : AS} {H : Heap} (h : hp_R b D dA S H) {a : Nat} (ha : hk S a = 13) : H[b + a]? = some (arrV (dA 13) (hl S a) (fun j => .long (Int64.ofInt (hI S a j)))) := by
  obtain ⟨-, -, h3, -, -⟩ := h
  obtain ⟨-, -, q⟩ := h3 a (by omega)
  rw [ha] at q
  unfold va_at hp_e at q
  simp only [if_neg (show ¬ 13 ≤ 7 by omega), if_neg (show ¬ 13 ≤ 9 by omega), if_neg (show ¬ 13 ≤ 12 by omega)] at q
  exact q
